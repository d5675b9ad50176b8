theorem dX8_rest_1 : decode cX8_rest 1 = .ok (.getfield 12, 3) := by decide +kernel
theorem dX8_rest_4 : decode cX8_rest 4 = .ok (.iload_n 1, 1) := by decide +kernel
theorem dX8_rest_5 : decode cX8_rest 5 = .ok (.invokevirtual 97, 3) := by decide +kernel
theorem dX8_rest_8 : decode cX8_rest 8 = .ok (.astore_n 3, 1) := by decide +kernel
theorem dX8_rest_9 : decode cX8_rest 9 = .ok (.aload_n 3, 1) := by decide +kernel
theorem dX8_rest_10 : decode cX8_rest 10 = .ok (.ifnull 14, 3) := by decide +kernel
theorem dX8_rest_13 : decode cX8_rest 13 = .ok (.iload_n 2, 1) := by decide +kernel
theorem dX8_rest_14 : decode cX8_rest 14 = .ok (.iconst 0, 1) := by decide +kernel
theorem dX8_rest_15 : decode cX8_rest 15 = .ok (.sipush 9999, 3) := by decide +kernel
theorem dX8_rest_18 : decode cX8_rest 18 = .ok (.invokestatic 81, 3) := by decide +kernel
theorem dX8_rest_21 : decode cX8_rest 21 = .ok (.ifCond .ne 5, 3) := by decide +kernel
theorem dX8_rest_24 : decode cX8_rest 24 = .ok (.iconst (-1), 1) := by decide +kernel
theorem dX8_rest_25 : decode cX8_rest 25 = .ok (.ireturn, 1) := by decide +kernel
theorem dX8_rest_26 : decode cX8_rest 26 = .ok (.aload_n 3, 1) := by decide +kernel
theorem dX8_rest_27 : decode cX8_rest 27 = .ok (.iload_n 2, 1) := by decide +kernel
theorem dX8_rest_28 : decode cX8_rest 28 = .ok (.invokevirtual 139, 3) := by decide +kernel
theorem dX8_rest_31 : decode cX8_rest 31 = .ok (.ireturn, 1) := by decide +kernel
theorem dX8_place_0 : decode cX8_place 0 = .ok (.aload_n 0, 1) := by decide +kernel
theorem dX8_place_1 : decode cX8_place 1 = .ok (.getfield 12, 3) := by decide +kernel
theorem dX8_place_4 : decode cX8_place 4 = .ok (.iload_n 1, 1) := by decide +kernel
theorem dX8_place_5 : decode cX8_place 5 = .ok (.invokevirtual 97, 3) := by decide +kernel
theorem dX8_place_8 : decode cX8_place 8 = .ok (.astore_n 3, 1) := by decide +kernel
theorem dX8_place_9 : decode cX8_place 9 = .ok (.aload_n 3, 1) := by decide +kernel
theorem dX8_place_10 : decode cX8_place 10 = .ok (.ifnull 17, 3) := by decide +kernel
theorem dX8_place_13 : decode cX8_place 13 = .ok (.iload_n 2, 1) := by decide +kernel
theorem dX8_place_14 : decode cX8_place 14 = .ok (.iconst 0, 1) := by decide +kernel
theorem dX8_place_15 : decode cX8_place 15 = .ok (.aload_n 3, 1) := by decide +kernel
theorem dX8_place_16 : decode cX8_place 16 = .ok (.getfield 108, 3) := by decide +kernel
theorem dX8_place_19 : decode cX8_place 19 = .ok (.iconst 1, 1) := by decide +kernel
theorem dX8_place_20 : decode cX8_place 20 = .ok (.isub, 1) := by decide +kernel
theorem dX8_place_21 : decode cX8_place 21 = .ok (.invokestatic 81, 3) := by decide +kernel
theorem dX8_place_24 : decode cX8_place 24 = .ok (.ifCond .ne 5, 3) := by decide +kernel
theorem dX8_place_27 : decode cX8_place 27 = .ok (.iconst (-1), 1) := by decide +kernel
theorem dX8_place_28 : decode cX8_place 28 = .ok (.ireturn, 1) := by decide +kernel
theorem dX8_place_29 : decode cX8_place 29 = .ok (.aload_n 3, 1) := by decide +kernel
theorem dX8_place_30 : decode cX8_place 30 = .ok (.iload_n 2, 1) := by decide +kernel
theorem dX8_place_31 : decode cX8_place 31 = .ok (.invokevirtual 145, 3) := by decide +kernel
theorem dX8_place_34 : decode cX8_place 34 = .ok (.ireturn, 1) := by decide +kernel
theorem dX8_block_0 : decode cX8_block 0 = .ok (.aload_n 0, 1) := by decide +kernel
theorem dX8_block_1 : decode cX8_block 1 = .ok (.getfield 12, 3) := by decide +kernel
theorem dX8_block_4 : decode cX8_block 4 = .ok (.iload_n 1, 1) := by decide +kernel
theorem dX8_block_5 : decode cX8_block 5 = .ok (.invokevirtual 97, 3) := by decide +kernel
theorem dX8_block_8 : decode cX8_block 8 = .ok (.astore 4, 2) := by decide +kernel
theorem dX8_block_10 : decode cX8_block 10 = .ok (.aload 4, 2) := by decide +kernel
theorem dX8_block_12 : decode cX8_block 12 = .ok (.ifnull 28, 3) := by decide +kernel
theorem dX8_block_15 : decode cX8_block 15 = .ok (.aload 4, 2) := by decide +kernel
theorem dX8_block_17 : decode cX8_block 17 = .ok (.iload_n 2, 1) := by decide +kernel
theorem dX8_block_18 : decode cX8_block 18 = .ok (.invokevirtual 148, 3) := by decide +kernel
theorem dX8_block_21 : decode cX8_block 21 = .ok (.ifCond .eq 19, 3) := by decide +kernel
theorem dX8_block_24 : decode cX8_block 24 = .ok (.iload_n 3, 1) := by decide +kernel
theorem dX8_block_25 : decode cX8_block 25 = .ok (.iconst (-1), 1) := by decide +kernel
theorem dX8_block_26 : decode cX8_block 26 = .ok (.aload 4, 2) := by decide +kernel
theorem dX8_block_28 : decode cX8_block 28 = .ok (.iload_n 2, 1) := by decide +kernel
theorem dX8_block_29 : decode cX8_block 29 = .ok (.invokevirtual 151, 3) := by decide +kernel
theorem dX8_block_32 : decode cX8_block 32 = .ok (.iconst 1, 1) := by decide +kernel
theorem dX8_block_33 : decode cX8_block 33 = .ok (.isub, 1) := by decide +kernel
theorem dX8_block_34 : decode cX8_block 34 = .ok (.invokestatic 81, 3) := by decide +kernel
theorem dX8_block_37 : decode cX8_block 37 = .ok (.ifCond .ne 5, 3) := by decide +kernel
theorem dX8_block_40 : decode cX8_block 40 = .ok (.iconst (-1), 1) := by decide +kernel
theorem dX8_block_41 : decode cX8_block 41 = .ok (.ireturn, 1) := by decide +kernel
theorem dX8_block_42 : decode cX8_block 42 = .ok (.aload_n 0, 1) := by decide +kernel
theorem dX8_block_43 : decode cX8_block 43 = .ok (.getfield 65, 3) := by decide +kernel
theorem dX8_block_46 : decode cX8_block 46 = .ok (.aload 4, 2) := by decide +kernel
theorem dX8_block_48 : decode cX8_block 48 = .ok (.invokevirtual 154, 3) := by decide +kernel
theorem dX8_block_51 : decode cX8_block 51 = .ok (.aload_n 0, 1) := by decide +kernel
theorem dX8_block_52 : decode cX8_block 52 = .ok (.getfield 65, 3) := by decide +kernel
theorem dX8_block_55 : decode cX8_block 55 = .ok (.iload_n 2, 1) := by decide +kernel
theorem dX8_block_56 : decode cX8_block 56 = .ok (.aload 4, 2) := by decide +kernel
theorem dX8_block_58 : decode cX8_block 58 = .ok (.iload_n 2, 1) := by decide +kernel
theorem dX8_block_59 : decode cX8_block 59 = .ok (.invokevirtual 151, 3) := by decide +kernel
theorem dX8_block_62 : decode cX8_block 62 = .ok (.iload_n 3, 1) := by decide +kernel
theorem dX8_block_63 : decode cX8_block 63 = .ok (.aload 4, 2) := by decide +kernel
theorem dX8_block_65 : decode cX8_block 65 = .ok (.getfield 108, 3) := by decide +kernel
theorem dX8_block_68 : decode cX8_block 68 = .ok (.invokevirtual 158, 3) := by decide +kernel
theorem dX8_block_71 : decode cX8_block 71 = .ok (.ireturn, 1) := by decide +kernel
theorem dX8_nines_0 : decode cX8_nines 0 = .ok (.aload_n 0, 1) := by decide +kernel
theorem dX8_nines_1 : decode cX8_nines 1 = .ok (.getfield 12, 3) := by decide +kernel
theorem dX8_nines_4 : decode cX8_nines 4 = .ok (.iload_n 1, 1) := by decide +kernel
theorem dX8_nines_5 : decode cX8_nines 5 = .ok (.invokevirtual 97, 3) := by decide +kernel
theorem dX8_nines_8 : decode cX8_nines 8 = .ok (.astore_n 3, 1) := by decide +kernel
theorem dX8_nines_9 : decode cX8_nines 9 = .ok (.aload_n 3, 1) := by decide +kernel
theorem dX8_nines_10 : decode cX8_nines 10 = .ok (.ifnull 11, 3) := by decide +kernel
theorem dX8_nines_13 : decode cX8_nines 13 = .ok (.aload_n 3, 1) := by decide +kernel
theorem dX8_nines_14 : decode cX8_nines 14 = .ok (.iload_n 2, 1) := by decide +kernel
theorem dX8_nines_15 : decode cX8_nines 15 = .ok (.invokevirtual 148, 3) := by decide +kernel
theorem dX8_nines_18 : decode cX8_nines 18 = .ok (.ifCond .ne 5, 3) := by decide +kernel
theorem dX8_nines_21 : decode cX8_nines 21 = .ok (.iconst (-1), 1) := by decide +kernel
theorem dX8_nines_22 : decode cX8_nines 22 = .ok (.ireturn, 1) := by decide +kernel
theorem dX8_nines_23 : decode cX8_nines 23 = .ok (.aload_n 3, 1) := by decide +kernel
theorem dX8_nines_24 : decode cX8_nines 24 = .ok (.iload_n 2, 1) := by decide +kernel
theorem dX8_nines_25 : decode cX8_nines 25 = .ok (.invokevirtual 162, 3) := by decide +kernel
theorem dX8_nines_28 : decode cX8_nines 28 = .ok (.ireturn, 1) := by decide +kernel
theorem dX8_shift_0 : decode cX8_shift 0 = .ok (.aload_n 0, 1) := by decide +kernel
theorem dX8_shift_1 : decode cX8_shift 1 = .ok (.getfield 12, 3) := by decide +kernel
theorem dX8_shift_4 : decode cX8_shift 4 = .ok (.iload_n 1, 1) := by decide +kernel
theorem dX8_shift_5 : decode cX8_shift 5 = .ok (.invokevirtual 97, 3) := by decide +kernel
theorem dX8_shift_8 : decode cX8_shift 8 = .ok (.astore_n 3, 1) := by decide +kernel
theorem dX8_shift_9 : decode cX8_shift 9 = .ok (.aload_n 3, 1) := by decide +kernel
theorem dX8_shift_10 : decode cX8_shift 10 = .ok (.ifnull 14, 3) := by decide +kernel
theorem dX8_shift_13 : decode cX8_shift 13 = .ok (.iload_n 2, 1) := by decide +kernel
theorem dX8_shift_14 : decode cX8_shift 14 = .ok (.iconst 1, 1) := by decide +kernel
theorem dX8_shift_15 : decode cX8_shift 15 = .ok (.sipush 999, 3) := by decide +kernel
theorem dX8_shift_18 : decode cX8_shift 18 = .ok (.invokestatic 81, 3) := by decide +kernel
theorem dX8_shift_21 : decode cX8_shift 21 = .ok (.ifCond .ne 5, 3) := by decide +kernel
theorem dX8_shift_24 : decode cX8_shift 24 = .ok (.iconst (-1), 1) := by decide +kernel
theorem dX8_shift_25 : decode cX8_shift 25 = .ok (.ireturn, 1) := by decide +kernel
theorem dX8_shift_26 : decode cX8_shift 26 = .ok (.aload_n 3, 1) := by decide +kernel
theorem dX8_shift_27 : decode cX8_shift 27 = .ok (.aload_n 3, 1) := by decide +kernel
theorem dX8_shift_28 : decode cX8_shift 28 = .ok (.iload_n 2, 1) := by decide +kernel
theorem dX8_shift_29 : decode cX8_shift 29 = .ok (.invokevirtual 165, 3) := by decide +kernel
theorem dX8_shift_32 : decode cX8_shift 32 = .ok (.invokevirtual 168, 3) := by decide +kernel
theorem dX8_shift_35 : decode cX8_shift 35 = .ok (.ireturn, 1) := by decide +kernel
theorem dX8_multiple_0 : decode cX8_multiple 0 = .ok (.aload_n 0, 1) := by decide +kernel
theorem dX8_multiple_1 : decode cX8_multiple 1 = .ok (.getfield 12, 3) := by decide +kernel
theorem dX8_multiple_4 : decode cX8_multiple 4 = .ok (.iload_n 1, 1) := by decide +kernel
theorem dX8_multiple_5 : decode cX8_multiple 5 = .ok (.invokevirtual 97, 3) := by decide +kernel
theorem dX8_multiple_8 : decode cX8_multiple 8 = .ok (.astore_n 3, 1) := by decide +kernel
theorem dX8_multiple_9 : decode cX8_multiple 9 = .ok (.aload_n 3, 1) := by decide +kernel
theorem dX8_multiple_10 : decode cX8_multiple 10 = .ok (.ifnull 17, 3) := by decide +kernel
theorem dX8_multiple_13 : decode cX8_multiple 13 = .ok (.iload_n 2, 1) := by decide +kernel
theorem dX8_multiple_14 : decode cX8_multiple 14 = .ok (.iconst 0, 1) := by decide +kernel
theorem dX8_multiple_15 : decode cX8_multiple 15 = .ok (.aload_n 3, 1) := by decide +kernel
theorem dX8_multiple_16 : decode cX8_multiple 16 = .ok (.getfield 133, 3) := by decide +kernel
theorem dX8_multiple_19 : decode cX8_multiple 19 = .ok (.iconst 1, 1) := by decide +kernel
theorem dX8_multiple_20 : decode cX8_multiple 20 = .ok (.isub, 1) := by decide +kernel
theorem dX8_multiple_21 : decode cX8_multiple 21 = .ok (.invokestatic 81, 3) := by decide +kernel
theorem dX8_multiple_24 : decode cX8_multiple 24 = .ok (.ifCond .ne 5, 3) := by decide +kernel
theorem dX8_multiple_27 : decode cX8_multiple 27 = .ok (.iconst (-1), 1) := by decide +kernel
theorem dX8_multiple_28 : decode cX8_multiple 28 = .ok (.ireturn, 1) := by decide +kernel
theorem dX8_multiple_29 : decode cX8_multiple 29 = .ok (.aload_n 3, 1) := by decide +kernel
theorem dX8_multiple_30 : decode cX8_multiple 30 = .ok (.aload_n 3, 1) := by decide +kernel
theorem dX8_multiple_31 : decode cX8_multiple 31 = .ok (.getfield 130, 3) := by decide +kernel
theorem dX8_multiple_34 : decode cX8_multiple 34 = .ok (.iload_n 2, 1) := by decide +kernel
theorem dX8_multiple_35 : decode cX8_multiple 35 = .ok (.iadd, 1) := by decide +kernel
theorem dX8_multiple_36 : decode cX8_multiple 36 = .ok (.invokevirtual 139, 3) := by decide +kernel
theorem dX8_multiple_39 : decode cX8_multiple 39 = .ok (.istore 4, 2) := by decide +kernel
theorem dX8_multiple_41 : decode cX8_multiple 41 = .ok (.iconst 2, 1) := by decide +kernel
theorem dX8_multiple_42 : decode cX8_multiple 42 = .ok (.istore 5, 2) := by decide +kernel
theorem dX8_multiple_44 : decode cX8_multiple 44 = .ok (.iload 5, 2) := by decide +kernel
theorem dX8_multiple_46 : decode cX8_multiple 46 = .ok (.sipush 999, 3) := by decide +kernel
theorem dX8_multiple_49 : decode cX8_multiple 49 = .ok (.if_icmp .gt 23, 3) := by decide +kernel
theorem dX8_multiple_52 : decode cX8_multiple 52 = .ok (.aload_n 3, 1) := by decide +kernel
theorem dX8_multiple_53 : decode cX8_multiple 53 = .ok (.iload 5, 2) := by decide +kernel
theorem dX8_multiple_55 : decode cX8_multiple 55 = .ok (.invokevirtual 165, 3) := by decide +kernel
theorem dX8_multiple_58 : decode cX8_multiple 58 = .ok (.iload 4, 2) := by decide +kernel
theorem dX8_multiple_60 : decode cX8_multiple 60 = .ok (.if_icmp .ne 6, 3) := by decide +kernel
theorem dX8_multiple_63 : decode cX8_multiple 63 = .ok (.iload 5, 2) := by decide +kernel
theorem dX8_multiple_65 : decode cX8_multiple 65 = .ok (.ireturn, 1) := by decide +kernel
theorem dX8_multiple_66 : decode cX8_multiple 66 = .ok (.iinc 5 1, 3) := by decide +kernel
theorem dX8_multiple_69 : decode cX8_multiple 69 = .ok (.goto (-25), 3) := by decide +kernel
theorem dX8_multiple_72 : decode cX8_multiple 72 = .ok (.bipush (-2), 2) := by decide +kernel
theorem dX8_multiple_74 : decode cX8_multiple 74 = .ok (.ireturn, 1) := by decide +kernel
theorem dX8_order_0 : decode cX8_order 0 = .ok (.iload_n 1, 1) := by decide +kernel
theorem dX8_order_1 : decode cX8_order 1 = .ok (.invokestatic 85, 3) := by decide +kernel
theorem dX8_order_4 : decode cX8_order 4 = .ok (.ifCond .eq 14, 3) := by decide +kernel
theorem dX8_order_7 : decode cX8_order 7 = .ok (.iload_n 2, 1) := by decide +kernel
theorem dX8_order_8 : decode cX8_order 8 = .ok (.iconst 1, 1) := by decide +kernel
theorem dX8_order_9 : decode cX8_order 9 = .ok (.sipush 9999, 3) := by decide +kernel
theorem dX8_order_12 : decode cX8_order 12 = .ok (.invokestatic 81, 3) := by decide +kernel
theorem dX8_order_15 : decode cX8_order 15 = .ok (.ifCond .ne 5, 3) := by decide +kernel
theorem dX8_order_18 : decode cX8_order 18 = .ok (.iconst (-1), 1) := by decide +kernel
theorem dX8_order_19 : decode cX8_order 19 = .ok (.ireturn, 1) := by decide +kernel
theorem dX8_order_20 : decode cX8_order 20 = .ok (.iload_n 1, 1) := by decide +kernel
theorem dX8_order_21 : decode cX8_order 21 = .ok (.i2l, 1) := by decide +kernel
theorem dX8_order_22 : decode cX8_order 22 = .ok (.iload_n 2, 1) := by decide +kernel
theorem dX8_order_23 : decode cX8_order 23 = .ok (.i2l, 1) := by decide +kernel
theorem dX8_order_24 : decode cX8_order 24 = .ok (.invokestatic 119, 3) := by decide +kernel
theorem dX8_order_27 : decode cX8_order 27 = .ok (.lconst 1, 1) := by decide +kernel
theorem dX8_order_28 : decode cX8_order 28 = .ok (.lcmp, 1) := by decide +kernel
theorem dX8_order_29 : decode cX8_order 29 = .ok (.ifCond .le 6, 3) := by decide +kernel
theorem dX8_order_32 : decode cX8_order 32 = .ok (.bipush (-2), 2) := by decide +kernel
theorem dX8_order_34 : decode cX8_order 34 = .ok (.ireturn, 1) := by decide +kernel
theorem dX8_order_35 : decode cX8_order 35 = .ok (.iconst 1, 1) := by decide +kernel
theorem dX8_order_36 : decode cX8_order 36 = .ok (.iload_n 2, 1) := by decide +kernel
theorem dX8_order_37 : decode cX8_order 37 = .ok (.invokestatic 171, 3) := by decide +kernel
theorem dX8_order_40 : decode cX8_order 40 = .ok (.istore_n 3, 1) := by decide +kernel
theorem dX8_order_41 : decode cX8_order 41 = .ok (.iload_n 1, 1) := by decide +kernel
theorem dX8_order_42 : decode cX8_order 42 = .ok (.iload_n 2, 1) := by decide +kernel
theorem dX8_order_43 : decode cX8_order 43 = .ok (.invokestatic 171, 3) := by decide +kernel
theorem dX8_order_46 : decode cX8_order 46 = .ok (.istore 4, 2) := by decide +kernel
theorem dX8_order_48 : decode cX8_order 48 = .ok (.iconst 1, 1) := by decide +kernel
theorem dX8_order_49 : decode cX8_order 49 = .ok (.istore 5, 2) := by decide +kernel
theorem dX8_order_51 : decode cX8_order 51 = .ok (.iload 4, 2) := by decide +kernel
theorem dX8_order_53 : decode cX8_order 53 = .ok (.iload_n 3, 1) := by decide +kernel
theorem dX8_order_54 : decode cX8_order 54 = .ok (.if_icmp .eq 25, 3) := by decide +kernel
theorem dX8_order_57 : decode cX8_order 57 = .ok (.iload 5, 2) := by decide +kernel
theorem dX8_order_59 : decode cX8_order 59 = .ok (.iload_n 2, 1) := by decide +kernel
theorem dX8_order_60 : decode cX8_order 60 = .ok (.if_icmp .ge 19, 3) := by decide +kernel
theorem dX8_order_63 : decode cX8_order 63 = .ok (.iload 4, 2) := by decide +kernel
theorem dX8_order_65 : decode cX8_order 65 = .ok (.iload_n 1, 1) := by decide +kernel
theorem dX8_order_66 : decode cX8_order 66 = .ok (.imul, 1) := by decide +kernel
theorem dX8_order_67 : decode cX8_order 67 = .ok (.iload_n 2, 1) := by decide +kernel
theorem dX8_order_68 : decode cX8_order 68 = .ok (.invokestatic 171, 3) := by decide +kernel
theorem dX8_order_71 : decode cX8_order 71 = .ok (.istore 4, 2) := by decide +kernel
theorem dX8_order_73 : decode cX8_order 73 = .ok (.iinc 5 1, 3) := by decide +kernel
theorem dX8_order_76 : decode cX8_order 76 = .ok (.goto (-25), 3) := by decide +kernel
theorem dX8_order_79 : decode cX8_order 79 = .ok (.iload 5, 2) := by decide +kernel
theorem dX8_order_81 : decode cX8_order 81 = .ok (.ireturn, 1) := by decide +kernel
theorem dX8_cycles_0 : decode cX8_cycles 0 = .ok (.iload_n 1, 1) := by decide +kernel
theorem dX8_cycles_1 : decode cX8_cycles 1 = .ok (.invokestatic 85, 3) := by decide +kernel
theorem dX8_cycles_4 : decode cX8_cycles 4 = .ok (.ifCond .eq 23, 3) := by decide +kernel
theorem dX8_cycles_7 : decode cX8_cycles 7 = .ok (.iload_n 2, 1) := by decide +kernel
theorem dX8_cycles_8 : decode cX8_cycles 8 = .ok (.iconst 2, 1) := by decide +kernel
theorem dX8_cycles_9 : decode cX8_cycles 9 = .ok (.sipush 999, 3) := by decide +kernel
theorem dX8_cycles_12 : decode cX8_cycles 12 = .ok (.invokestatic 81, 3) := by decide +kernel
theorem dX8_cycles_15 : decode cX8_cycles 15 = .ok (.ifCond .eq 12, 3) := by decide +kernel
theorem dX8_cycles_18 : decode cX8_cycles 18 = .ok (.iload_n 3, 1) := by decide +kernel
theorem dX8_cycles_19 : decode cX8_cycles 19 = .ok (.iconst 0, 1) := by decide +kernel
theorem dX8_cycles_20 : decode cX8_cycles 20 = .ok (.iconst 1, 1) := by decide +kernel
theorem dX8_cycles_21 : decode cX8_cycles 21 = .ok (.invokestatic 81, 3) := by decide +kernel
theorem dX8_cycles_24 : decode cX8_cycles 24 = .ok (.ifCond .ne 5, 3) := by decide +kernel
theorem dX8_cycles_27 : decode cX8_cycles 27 = .ok (.iconst (-1), 1) := by decide +kernel
theorem dX8_cycles_28 : decode cX8_cycles 28 = .ok (.ireturn, 1) := by decide +kernel
theorem dX8_cycles_29 : decode cX8_cycles 29 = .ok (.iload_n 1, 1) := by decide +kernel
theorem dX8_cycles_30 : decode cX8_cycles 30 = .ok (.i2l, 1) := by decide +kernel
theorem dX8_cycles_31 : decode cX8_cycles 31 = .ok (.iload_n 2, 1) := by decide +kernel
theorem dX8_cycles_32 : decode cX8_cycles 32 = .ok (.i2l, 1) := by decide +kernel
theorem dX8_cycles_33 : decode cX8_cycles 33 = .ok (.invokestatic 119, 3) := by decide +kernel
theorem dX8_cycles_36 : decode cX8_cycles 36 = .ok (.lconst 1, 1) := by decide +kernel
theorem dX8_cycles_37 : decode cX8_cycles 37 = .ok (.lcmp, 1) := by decide +kernel
theorem dX8_cycles_38 : decode cX8_cycles 38 = .ok (.ifCond .le 6, 3) := by decide +kernel
theorem dX8_cycles_41 : decode cX8_cycles 41 = .ok (.bipush (-5), 2) := by decide +kernel
theorem dX8_cycles_43 : decode cX8_cycles 43 = .ok (.ireturn, 1) := by decide +kernel
theorem dX8_cycles_44 : decode cX8_cycles 44 = .ok (.iconst 0, 1) := by decide +kernel
theorem dX8_cycles_45 : decode cX8_cycles 45 = .ok (.istore 4, 2) := by decide +kernel
theorem dX8_cycles_47 : decode cX8_cycles 47 = .ok (.iload 4, 2) := by decide +kernel
theorem dX8_cycles_49 : decode cX8_cycles 49 = .ok (.iload_n 2, 1) := by decide +kernel
theorem dX8_cycles_50 : decode cX8_cycles 50 = .ok (.if_icmp .ge 19, 3) := by decide +kernel
theorem dX8_cycles_53 : decode cX8_cycles 53 = .ok (.aload_n 0, 1) := by decide +kernel
theorem dX8_cycles_54 : decode cX8_cycles 54 = .ok (.getfield 76, 3) := by decide +kernel
theorem dX8_cycles_57 : decode cX8_cycles 57 = .ok (.iload 4, 2) := by decide +kernel
theorem dX8_cycles_59 : decode cX8_cycles 59 = .ok (.iconst 0, 1) := by decide +kernel
theorem dX8_cycles_60 : decode cX8_cycles 60 = .ok (.invokestatic 175, 3) := by decide +kernel
theorem dX8_cycles_63 : decode cX8_cycles 63 = .ok (.iinc 4 1, 3) := by decide +kernel
theorem dX8_cycles_66 : decode cX8_cycles 66 = .ok (.goto (-19), 3) := by decide +kernel
theorem dX8_cycles_69 : decode cX8_cycles 69 = .ok (.iconst 0, 1) := by decide +kernel
theorem dX8_cycles_70 : decode cX8_cycles 70 = .ok (.istore 4, 2) := by decide +kernel
theorem dX8_cycles_72 : decode cX8_cycles 72 = .ok (.iconst 0, 1) := by decide +kernel
theorem dX8_cycles_73 : decode cX8_cycles 73 = .ok (.istore 5, 2) := by decide +kernel
theorem dX8_cycles_75 : decode cX8_cycles 75 = .ok (.iconst 1, 1) := by decide +kernel
theorem dX8_cycles_76 : decode cX8_cycles 76 = .ok (.istore 6, 2) := by decide +kernel
theorem dX8_cycles_78 : decode cX8_cycles 78 = .ok (.iload 6, 2) := by decide +kernel
theorem dX8_cycles_80 : decode cX8_cycles 80 = .ok (.iload_n 2, 1) := by decide +kernel
theorem dX8_cycles_81 : decode cX8_cycles 81 = .ok (.if_icmp .ge 43, 3) := by decide +kernel
theorem dX8_cycles_84 : decode cX8_cycles 84 = .ok (.aload_n 0, 1) := by decide +kernel
theorem dX8_cycles_85 : decode cX8_cycles 85 = .ok (.iload 6, 2) := by decide +kernel
theorem dX8_cycles_87 : decode cX8_cycles 87 = .ok (.iload_n 1, 1) := by decide +kernel
theorem dX8_cycles_88 : decode cX8_cycles 88 = .ok (.iload_n 2, 1) := by decide +kernel
theorem dX8_cycles_89 : decode cX8_cycles 89 = .ok (.invokevirtual 179, 3) := by decide +kernel
theorem dX8_cycles_92 : decode cX8_cycles 92 = .ok (.istore 7, 2) := by decide +kernel
theorem dX8_cycles_94 : decode cX8_cycles 94 = .ok (.iload 4, 2) := by decide +kernel
theorem dX8_cycles_96 : decode cX8_cycles 96 = .ok (.iload 7, 2) := by decide +kernel
theorem dX8_cycles_98 : decode cX8_cycles 98 = .ok (.ifCond .le 7, 3) := by decide +kernel
theorem dX8_cycles_101 : decode cX8_cycles 101 = .ok (.iconst 1, 1) := by decide +kernel
theorem dX8_cycles_102 : decode cX8_cycles 102 = .ok (.goto 4, 3) := by decide +kernel
theorem dX8_cycles_105 : decode cX8_cycles 105 = .ok (.iconst 0, 1) := by decide +kernel
theorem dX8_cycles_106 : decode cX8_cycles 106 = .ok (.iadd, 1) := by decide +kernel
theorem dX8_cycles_107 : decode cX8_cycles 107 = .ok (.istore 4, 2) := by decide +kernel
theorem dX8_cycles_109 : decode cX8_cycles 109 = .ok (.iload 5, 2) := by decide +kernel
theorem dX8_cycles_111 : decode cX8_cycles 111 = .ok (.iload 7, 2) := by decide +kernel
theorem dX8_cycles_113 : decode cX8_cycles 113 = .ok (.invokestatic 182, 3) := by decide +kernel
theorem dX8_cycles_116 : decode cX8_cycles 116 = .ok (.istore 5, 2) := by decide +kernel
theorem dX8_cycles_118 : decode cX8_cycles 118 = .ok (.iinc 6 1, 3) := by decide +kernel
theorem dX8_cycles_121 : decode cX8_cycles 121 = .ok (.goto (-43), 3) := by decide +kernel
theorem dX8_cycles_124 : decode cX8_cycles 124 = .ok (.iload_n 3, 1) := by decide +kernel
theorem dX8_cycles_125 : decode cX8_cycles 125 = .ok (.ifCond .ne 8, 3) := by decide +kernel
theorem dX8_cycles_128 : decode cX8_cycles 128 = .ok (.iload 4, 2) := by decide +kernel
theorem dX8_cycles_130 : decode cX8_cycles 130 = .ok (.goto 5, 3) := by decide +kernel
theorem dX8_cycles_133 : decode cX8_cycles 133 = .ok (.iload 5, 2) := by decide +kernel
theorem dX8_cycles_135 : decode cX8_cycles 135 = .ok (.ireturn, 1) := by decide +kernel
theorem dX8_full_0 : decode cX8_full 0 = .ok (.iload_n 2, 1) := by decide +kernel
theorem dX8_full_1 : decode cX8_full 1 = .ok (.iconst 2, 1) := by decide +kernel
theorem dX8_full_2 : decode cX8_full 2 = .ok (.sipush 999, 3) := by decide +kernel
theorem dX8_full_5 : decode cX8_full 5 = .ok (.invokestatic 81, 3) := by decide +kernel
theorem dX8_full_8 : decode cX8_full 8 = .ok (.ifCond .eq 18, 3) := by decide +kernel
theorem dX8_full_11 : decode cX8_full 11 = .ok (.iload_n 3, 1) := by decide +kernel
theorem dX8_full_12 : decode cX8_full 12 = .ok (.iload_n 2, 1) := by decide +kernel
theorem dX8_full_13 : decode cX8_full 13 = .ok (.sipush 999, 3) := by decide +kernel
theorem dX8_full_16 : decode cX8_full 16 = .ok (.invokestatic 81, 3) := by decide +kernel
theorem dX8_full_19 : decode cX8_full 19 = .ok (.ifCond .eq 7, 3) := by decide +kernel
theorem dX8_full_22 : decode cX8_full 22 = .ok (.iconst 1, 1) := by decide +kernel
theorem dX8_full_23 : decode cX8_full 23 = .ok (.goto 4, 3) := by decide +kernel
theorem dX8_full_26 : decode cX8_full 26 = .ok (.iconst 0, 1) := by decide +kernel
theorem dX8_full_27 : decode cX8_full 27 = .ok (.istore 5, 2) := by decide +kernel
theorem dX8_full_29 : decode cX8_full 29 = .ok (.iload_n 1, 1) := by decide +kernel
theorem dX8_full_30 : decode cX8_full 30 = .ok (.invokestatic 85, 3) := by decide +kernel
theorem dX8_full_33 : decode cX8_full 33 = .ok (.ifCond .eq 18, 3) := by decide +kernel
theorem dX8_full_36 : decode cX8_full 36 = .ok (.iload 5, 2) := by decide +kernel
theorem dX8_full_38 : decode cX8_full 38 = .ok (.ifCond .eq 13, 3) := by decide +kernel
theorem dX8_full_41 : decode cX8_full 41 = .ok (.iload 4, 2) := by decide +kernel
theorem dX8_full_43 : decode cX8_full 43 = .ok (.iconst 0, 1) := by decide +kernel
theorem dX8_full_44 : decode cX8_full 44 = .ok (.iconst 2, 1) := by decide +kernel
theorem dX8_full_45 : decode cX8_full 45 = .ok (.invokestatic 81, 3) := by decide +kernel
theorem dX8_full_48 : decode cX8_full 48 = .ok (.ifCond .ne 5, 3) := by decide +kernel
theorem dX8_full_51 : decode cX8_full 51 = .ok (.iconst (-1), 1) := by decide +kernel
theorem dX8_full_52 : decode cX8_full 52 = .ok (.ireturn, 1) := by decide +kernel
theorem dX8_full_53 : decode cX8_full 53 = .ok (.iconst 0, 1) := by decide +kernel
theorem dX8_full_54 : decode cX8_full 54 = .ok (.istore 6, 2) := by decide +kernel
theorem dX8_full_56 : decode cX8_full 56 = .ok (.bipush (-2), 2) := by decide +kernel
theorem dX8_full_58 : decode cX8_full 58 = .ok (.istore 7, 2) := by decide +kernel
theorem dX8_full_60 : decode cX8_full 60 = .ok (.bipush (-2), 2) := by decide +kernel
theorem dX8_full_62 : decode cX8_full 62 = .ok (.istore 8, 2) := by decide +kernel
theorem dX8_full_64 : decode cX8_full 64 = .ok (.iload_n 2, 1) := by decide +kernel
theorem dX8_full_65 : decode cX8_full 65 = .ok (.istore 9, 2) := by decide +kernel
theorem dX8_full_67 : decode cX8_full 67 = .ok (.iload 9, 2) := by decide +kernel
theorem dX8_full_69 : decode cX8_full 69 = .ok (.iload_n 3, 1) := by decide +kernel
theorem dX8_full_70 : decode cX8_full 70 = .ok (.if_icmp .gt 51, 3) := by decide +kernel
theorem dX8_full_73 : decode cX8_full 73 = .ok (.aload_n 0, 1) := by decide +kernel
theorem dX8_full_74 : decode cX8_full 74 = .ok (.getfield 72, 3) := by decide +kernel
theorem dX8_full_77 : decode cX8_full 77 = .ok (.iconst 1, 1) := by decide +kernel
theorem dX8_full_78 : decode cX8_full 78 = .ok (.iload 9, 2) := by decide +kernel
theorem dX8_full_80 : decode cX8_full 80 = .ok (.iload_n 1, 1) := by decide +kernel
theorem dX8_full_81 : decode cX8_full 81 = .ok (.invokevirtual 111, 3) := by decide +kernel
theorem dX8_full_84 : decode cX8_full 84 = .ok (.aload_n 0, 1) := by decide +kernel
theorem dX8_full_85 : decode cX8_full 85 = .ok (.getfield 72, 3) := by decide +kernel
theorem dX8_full_88 : decode cX8_full 88 = .ok (.invokevirtual 187, 3) := by decide +kernel
theorem dX8_full_91 : decode cX8_full 91 = .ok (.ifCond .eq 24, 3) := by decide +kernel
theorem dX8_full_94 : decode cX8_full 94 = .ok (.iload 6, 2) := by decide +kernel
theorem dX8_full_96 : decode cX8_full 96 = .ok (.ifCond .ne 8, 3) := by decide +kernel
theorem dX8_full_99 : decode cX8_full 99 = .ok (.iload 9, 2) := by decide +kernel
theorem dX8_full_101 : decode cX8_full 101 = .ok (.goto 5, 3) := by decide +kernel
theorem dX8_full_104 : decode cX8_full 104 = .ok (.iload 7, 2) := by decide +kernel
theorem dX8_full_106 : decode cX8_full 106 = .ok (.istore 7, 2) := by decide +kernel
theorem dX8_full_108 : decode cX8_full 108 = .ok (.iload 9, 2) := by decide +kernel
theorem dX8_full_110 : decode cX8_full 110 = .ok (.istore 8, 2) := by decide +kernel
theorem dX8_full_112 : decode cX8_full 112 = .ok (.iinc 6 1, 3) := by decide +kernel
theorem dX8_full_115 : decode cX8_full 115 = .ok (.iinc 9 1, 3) := by decide +kernel
theorem dX8_full_118 : decode cX8_full 118 = .ok (.goto (-51), 3) := by decide +kernel
theorem dX8_full_121 : decode cX8_full 121 = .ok (.iload 4, 2) := by decide +kernel
theorem dX8_full_123 : decode cX8_full 123 = .ok (.ifCond .ne 8, 3) := by decide +kernel
theorem dX8_full_126 : decode cX8_full 126 = .ok (.iload 6, 2) := by decide +kernel
theorem dX8_full_128 : decode cX8_full 128 = .ok (.goto 16, 3) := by decide +kernel
theorem dX8_full_131 : decode cX8_full 131 = .ok (.iload 4, 2) := by decide +kernel
theorem dX8_full_133 : decode cX8_full 133 = .ok (.iconst 1, 1) := by decide +kernel
theorem dX8_full_134 : decode cX8_full 134 = .ok (.if_icmp .ne 8, 3) := by decide +kernel
theorem dX8_full_137 : decode cX8_full 137 = .ok (.iload 7, 2) := by decide +kernel
theorem dX8_full_139 : decode cX8_full 139 = .ok (.goto 5, 3) := by decide +kernel
theorem dX8_full_142 : decode cX8_full 142 = .ok (.iload 8, 2) := by decide +kernel
theorem dX8_full_144 : decode cX8_full 144 = .ok (.ireturn, 1) := by decide +kernel
theorem dX8_list_0 : decode cX8_list 0 = .ok (.iload_n 1, 1) := by decide +kernel
theorem dX8_list_1 : decode cX8_list 1 = .ok (.iconst 2, 1) := by decide +kernel
theorem dX8_list_2 : decode cX8_list 2 = .ok (.sipush 400, 3) := by decide +kernel
theorem dX8_list_5 : decode cX8_list 5 = .ok (.invokestatic 81, 3) := by decide +kernel
theorem dX8_list_8 : decode cX8_list 8 = .ok (.ifCond .eq 10, 3) := by decide +kernel
theorem dX8_list_11 : decode cX8_list 11 = .ok (.iload_n 2, 1) := by decide +kernel
theorem dX8_list_12 : decode cX8_list 12 = .ok (.invokestatic 85, 3) := by decide +kernel
theorem dX8_list_15 : decode cX8_list 15 = .ok (.ifCond .ne 5, 3) := by decide +kernel
theorem dX8_list_18 : decode cX8_list 18 = .ok (.iconst (-1), 1) := by decide +kernel
theorem dX8_list_19 : decode cX8_list 19 = .ok (.ireturn, 1) := by decide +kernel
theorem dX8_list_20 : decode cX8_list 20 = .ok (.aload_n 0, 1) := by decide +kernel
theorem dX8_list_21 : decode cX8_list 21 = .ok (.getfield 21, 3) := by decide +kernel
theorem dX8_list_24 : decode cX8_list 24 = .ok (.iload_n 1, 1) := by decide +kernel
theorem dX8_list_25 : decode cX8_list 25 = .ok (.iload_n 2, 1) := by decide +kernel
theorem dX8_list_26 : decode cX8_list 26 = .ok (.invokevirtual 191, 3) := by decide +kernel
theorem dX8_list_29 : decode cX8_list 29 = .ok (.aload_n 0, 1) := by decide +kernel
theorem dX8_list_30 : decode cX8_list 30 = .ok (.getfield 21, 3) := by decide +kernel
theorem dX8_list_33 : decode cX8_list 33 = .ok (.getfield 195, 3) := by decide +kernel
theorem dX8_list_36 : decode cX8_list 36 = .ok (.ireturn, 1) := by decide +kernel
theorem dX8_thin_0 : decode cX8_thin 0 = .ok (.aload_n 0, 1) := by decide +kernel
theorem dX8_thin_1 : decode cX8_thin 1 = .ok (.getfield 28, 3) := by decide +kernel
theorem dX8_thin_4 : decode cX8_thin 4 = .ok (.iconst 0, 1) := by decide +kernel
theorem dX8_thin_5 : decode cX8_thin 5 = .ok (.iconst 4, 1) := by decide +kernel
theorem dX8_thin_6 : decode cX8_thin 6 = .ok (.ldc 196, 2) := by decide +kernel
theorem dX8_thin_8 : decode cX8_thin 8 = .ok (.invokevirtual 198, 3) := by decide +kernel
theorem dX8_thin_11 : decode cX8_thin 11 = .ok (.istore_n 1, 1) := by decide +kernel
theorem dX8_thin_12 : decode cX8_thin 12 = .ok (.aload_n 0, 1) := by decide +kernel
theorem dX8_thin_13 : decode cX8_thin 13 = .ok (.getfield 28, 3) := by decide +kernel
theorem dX8_thin_16 : decode cX8_thin 16 = .ok (.iload_n 1, 1) := by decide +kernel
theorem dX8_thin_17 : decode cX8_thin 17 = .ok (.ifCond .eq 7, 3) := by decide +kernel
theorem dX8_thin_20 : decode cX8_thin 20 = .ok (.iconst 4, 1) := by decide +kernel
theorem dX8_thin_21 : decode cX8_thin 21 = .ok (.goto 4, 3) := by decide +kernel
theorem dX8_thin_24 : decode cX8_thin 24 = .ok (.iconst 0, 1) := by decide +kernel
theorem dX8_thin_25 : decode cX8_thin 25 = .ok (.invokestatic 202, 3) := by decide +kernel
theorem dX8_thin_28 : decode cX8_thin 28 = .ok (.istore_n 2, 1) := by decide +kernel
theorem dX8_thin_29 : decode cX8_thin 29 = .ok (.aload_n 0, 1) := by decide +kernel
theorem dX8_thin_30 : decode cX8_thin 30 = .ok (.getfield 28, 3) := by decide +kernel
theorem dX8_thin_33 : decode cX8_thin 33 = .ok (.invokevirtual 206, 3) := by decide +kernel
theorem dX8_thin_36 : decode cX8_thin 36 = .ok (.iload_n 2, 1) := by decide +kernel
theorem dX8_thin_37 : decode cX8_thin 37 = .ok (.iconst (-1), 1) := by decide +kernel
theorem dX8_thin_38 : decode cX8_thin 38 = .ok (.if_icmp .ne 5, 3) := by decide +kernel
theorem dX8_thin_41 : decode cX8_thin 41 = .ok (.iconst (-1), 1) := by decide +kernel
theorem dX8_thin_42 : decode cX8_thin 42 = .ok (.ireturn, 1) := by decide +kernel
theorem dX8_thin_43 : decode cX8_thin 43 = .ok (.aload_n 0, 1) := by decide +kernel
theorem dX8_thin_44 : decode cX8_thin 44 = .ok (.getfield 21, 3) := by decide +kernel
theorem dX8_thin_47 : decode cX8_thin 47 = .ok (.iload_n 2, 1) := by decide +kernel
theorem dX8_thin_48 : decode cX8_thin 48 = .ok (.iload_n 1, 1) := by decide +kernel
theorem dX8_thin_49 : decode cX8_thin 49 = .ok (.ifCond .ne 7, 3) := by decide +kernel
theorem dX8_thin_52 : decode cX8_thin 52 = .ok (.iconst 1, 1) := by decide +kernel
theorem dX8_thin_53 : decode cX8_thin 53 = .ok (.goto 4, 3) := by decide +kernel
theorem dX8_thin_56 : decode cX8_thin 56 = .ok (.iconst 0, 1) := by decide +kernel
theorem dX8_thin_57 : decode cX8_thin 57 = .ok (.invokevirtual 209, 3) := by decide +kernel
theorem dX8_thin_60 : decode cX8_thin 60 = .ok (.aload_n 0, 1) := by decide +kernel
theorem dX8_thin_61 : decode cX8_thin 61 = .ok (.getfield 21, 3) := by decide +kernel
theorem dX8_thin_64 : decode cX8_thin 64 = .ok (.getfield 195, 3) := by decide +kernel
theorem dX8_thin_67 : decode cX8_thin 67 = .ok (.ireturn, 1) := by decide +kernel
theorem dX8_listed_0 : decode cX8_listed 0 = .ok (.iload_n 1, 1) := by decide +kernel
theorem dX8_listed_1 : decode cX8_listed 1 = .ok (.ifCond .ge 5, 3) := by decide +kernel
theorem dX8_listed_4 : decode cX8_listed 4 = .ok (.iconst (-1), 1) := by decide +kernel
theorem dX8_listed_5 : decode cX8_listed 5 = .ok (.ireturn, 1) := by decide +kernel
theorem dX8_listed_6 : decode cX8_listed 6 = .ok (.iload_n 1, 1) := by decide +kernel
theorem dX8_listed_7 : decode cX8_listed 7 = .ok (.aload_n 0, 1) := by decide +kernel
theorem dX8_listed_8 : decode cX8_listed 8 = .ok (.getfield 21, 3) := by decide +kernel
theorem dX8_listed_11 : decode cX8_listed 11 = .ok (.getfield 195, 3) := by decide +kernel
theorem dX8_listed_14 : decode cX8_listed 14 = .ok (.if_icmp .ge 17, 3) := by decide +kernel
theorem dX8_listed_17 : decode cX8_listed 17 = .ok (.aload_n 0, 1) := by decide +kernel
theorem dX8_listed_18 : decode cX8_listed 18 = .ok (.getfield 21, 3) := by decide +kernel
theorem dX8_listed_21 : decode cX8_listed 21 = .ok (.getfield 213, 3) := by decide +kernel
theorem dX8_listed_24 : decode cX8_listed 24 = .ok (.iload_n 1, 1) := by decide +kernel
theorem dX8_listed_25 : decode cX8_listed 25 = .ok (.invokestatic 216, 3) := by decide +kernel
theorem dX8_listed_28 : decode cX8_listed 28 = .ok (.goto 5, 3) := by decide +kernel
theorem dX8_listed_31 : decode cX8_listed 31 = .ok (.bipush (-2), 2) := by decide +kernel
theorem dX8_listed_33 : decode cX8_listed 33 = .ok (.ireturn, 1) := by decide +kernel
theorem dX8_tells_0 : decode cX8_tells 0 = .ok (.aload_n 0, 1) := by decide +kernel
theorem dX8_tells_1 : decode cX8_tells 1 = .ok (.getfield 12, 3) := by decide +kernel
theorem dX8_tells_4 : decode cX8_tells 4 = .ok (.iload_n 1, 1) := by decide +kernel
theorem dX8_tells_5 : decode cX8_tells 5 = .ok (.invokevirtual 97, 3) := by decide +kernel
theorem dX8_tells_8 : decode cX8_tells 8 = .ok (.astore 4, 2) := by decide +kernel
theorem dX8_tells_10 : decode cX8_tells 10 = .ok (.aload 4, 2) := by decide +kernel
theorem dX8_tells_12 : decode cX8_tells 12 = .ok (.ifnull 22, 3) := by decide +kernel
theorem dX8_tells_15 : decode cX8_tells 15 = .ok (.iload_n 2, 1) := by decide +kernel
theorem dX8_tells_16 : decode cX8_tells 16 = .ok (.iconst 0, 1) := by decide +kernel
theorem dX8_tells_17 : decode cX8_tells 17 = .ok (.iconst 5, 1) := by decide +kernel
theorem dX8_tells_18 : decode cX8_tells 18 = .ok (.invokestatic 81, 3) := by decide +kernel
theorem dX8_tells_21 : decode cX8_tells 21 = .ok (.ifCond .eq 13, 3) := by decide +kernel
theorem dX8_tells_24 : decode cX8_tells 24 = .ok (.iload_n 3, 1) := by decide +kernel
theorem dX8_tells_25 : decode cX8_tells 25 = .ok (.iconst 0, 1) := by decide +kernel
theorem dX8_tells_26 : decode cX8_tells 26 = .ok (.bipush 99, 2) := by decide +kernel
theorem dX8_tells_28 : decode cX8_tells 28 = .ok (.invokestatic 81, 3) := by decide +kernel
theorem dX8_tells_31 : decode cX8_tells 31 = .ok (.ifCond .ne 7, 3) := by decide +kernel
theorem dX8_tells_34 : decode cX8_tells 34 = .ok (.ldc2_w 220, 3) := by decide +kernel
theorem dX8_tells_37 : decode cX8_tells 37 = .ok (.lreturn, 1) := by decide +kernel
theorem dX8_tells_38 : decode cX8_tells 38 = .ok (.aload_n 0, 1) := by decide +kernel
theorem dX8_tells_39 : decode cX8_tells 39 = .ok (.getfield 65, 3) := by decide +kernel
theorem dX8_tells_42 : decode cX8_tells 42 = .ok (.aload 4, 2) := by decide +kernel
theorem dX8_tells_44 : decode cX8_tells 44 = .ok (.invokevirtual 154, 3) := by decide +kernel
theorem dX8_tells_47 : decode cX8_tells 47 = .ok (.aload_n 0, 1) := by decide +kernel
theorem dX8_tells_48 : decode cX8_tells 48 = .ok (.getfield 65, 3) := by decide +kernel
theorem dX8_tells_51 : decode cX8_tells 51 = .ok (.iload_n 2, 1) := by decide +kernel
theorem dX8_tells_52 : decode cX8_tells 52 = .ok (.iload_n 3, 1) := by decide +kernel
theorem dX8_tells_53 : decode cX8_tells 53 = .ok (.invokevirtual 222, 3) := by decide +kernel
theorem dX8_tells_56 : decode cX8_tells 56 = .ok (.lreturn, 1) := by decide +kernel
theorem dX8_feed_0 : decode cX8_feed 0 = .ok (.iload_n 2, 1) := by decide +kernel
theorem dX8_feed_1 : decode cX8_feed 1 = .ok (.iconst 1, 1) := by decide +kernel
theorem dX8_feed_2 : decode cX8_feed 2 = .ok (.iconst 4, 1) := by decide +kernel
theorem dX8_feed_3 : decode cX8_feed 3 = .ok (.invokestatic 81, 3) := by decide +kernel
theorem dX8_feed_6 : decode cX8_feed 6 = .ok (.ifCond .ne 5, 3) := by decide +kernel
theorem dX8_feed_9 : decode cX8_feed 9 = .ok (.iconst (-1), 1) := by decide +kernel
theorem dX8_feed_10 : decode cX8_feed 10 = .ok (.ireturn, 1) := by decide +kernel
theorem dX8_feed_11 : decode cX8_feed 11 = .ok (.aload_n 0, 1) := by decide +kernel
theorem dX8_feed_12 : decode cX8_feed 12 = .ok (.getfield 28, 3) := by decide +kernel
theorem dX8_feed_15 : decode cX8_feed 15 = .ok (.getfield 226, 3) := by decide +kernel
theorem dX8_feed_18 : decode cX8_feed 18 = .ok (.iload_n 2, 1) := by decide +kernel
theorem dX8_feed_19 : decode cX8_feed 19 = .ok (.iadd, 1) := by decide +kernel
theorem dX8_feed_20 : decode cX8_feed 20 = .ok (.bipush 80, 2) := by decide +kernel
theorem dX8_feed_22 : decode cX8_feed 22 = .ok (.if_icmp .le 6, 3) := by decide +kernel
theorem dX8_feed_25 : decode cX8_feed 25 = .ok (.bipush (-3), 2) := by decide +kernel
theorem dX8_feed_27 : decode cX8_feed 27 = .ok (.ireturn, 1) := by decide +kernel
theorem dX8_feed_28 : decode cX8_feed 28 = .ok (.iload_n 2, 1) := by decide +kernel
theorem dX8_feed_29 : decode cX8_feed 29 = .ok (.iconst 1, 1) := by decide +kernel
theorem dX8_feed_30 : decode cX8_feed 30 = .ok (.isub, 1) := by decide +kernel
theorem dX8_feed_31 : decode cX8_feed 31 = .ok (.istore_n 3, 1) := by decide +kernel
theorem dX8_feed_32 : decode cX8_feed 32 = .ok (.iload_n 3, 1) := by decide +kernel
theorem dX8_feed_33 : decode cX8_feed 33 = .ok (.ifCond .lt 26, 3) := by decide +kernel
theorem dX8_feed_36 : decode cX8_feed 36 = .ok (.aload_n 0, 1) := by decide +kernel
theorem dX8_feed_37 : decode cX8_feed 37 = .ok (.getfield 28, 3) := by decide +kernel
theorem dX8_feed_40 : decode cX8_feed 40 = .ok (.iload_n 1, 1) := by decide +kernel
theorem dX8_feed_41 : decode cX8_feed 41 = .ok (.bipush 8, 2) := by decide +kernel
theorem dX8_feed_43 : decode cX8_feed 43 = .ok (.iload_n 3, 1) := by decide +kernel
theorem dX8_feed_44 : decode cX8_feed 44 = .ok (.imul, 1) := by decide +kernel
theorem dX8_feed_45 : decode cX8_feed 45 = .ok (.iushr, 1) := by decide +kernel
theorem dX8_feed_46 : decode cX8_feed 46 = .ok (.sipush 255, 3) := by decide +kernel
theorem dX8_feed_49 : decode cX8_feed 49 = .ok (.iand, 1) := by decide +kernel
theorem dX8_feed_50 : decode cX8_feed 50 = .ok (.invokevirtual 227, 3) := by decide +kernel
theorem dX8_feed_53 : decode cX8_feed 53 = .ok (.iinc 3 (-1), 3) := by decide +kernel
theorem dX8_feed_56 : decode cX8_feed 56 = .ok (.goto (-24), 3) := by decide +kernel
theorem dX8_feed_59 : decode cX8_feed 59 = .ok (.aload_n 0, 1) := by decide +kernel
theorem dX8_feed_60 : decode cX8_feed 60 = .ok (.getfield 28, 3) := by decide +kernel
theorem dX8_feed_63 : decode cX8_feed 63 = .ok (.getfield 226, 3) := by decide +kernel
theorem dX8_feed_66 : decode cX8_feed 66 = .ok (.ireturn, 1) := by decide +kernel
theorem dX8_wipe_0 : decode cX8_wipe 0 = .ok (.aload_n 0, 1) := by decide +kernel
theorem dX8_wipe_1 : decode cX8_wipe 1 = .ok (.getfield 28, 3) := by decide +kernel
theorem dX8_wipe_4 : decode cX8_wipe 4 = .ok (.getfield 226, 3) := by decide +kernel
theorem dX8_wipe_7 : decode cX8_wipe 7 = .ok (.istore_n 1, 1) := by decide +kernel
theorem dX8_wipe_8 : decode cX8_wipe 8 = .ok (.aload_n 0, 1) := by decide +kernel
theorem dX8_wipe_9 : decode cX8_wipe 9 = .ok (.getfield 28, 3) := by decide +kernel
theorem dX8_wipe_12 : decode cX8_wipe 12 = .ok (.invokevirtual 206, 3) := by decide +kernel
theorem dX8_wipe_15 : decode cX8_wipe 15 = .ok (.iload_n 1, 1) := by decide +kernel
theorem dX8_wipe_16 : decode cX8_wipe 16 = .ok (.ireturn, 1) := by decide +kernel
theorem dX8_spell_0 : decode cX8_spell 0 = .ok (.aload_n 0, 1) := by decide +kernel
theorem dX8_spell_1 : decode cX8_spell 1 = .ok (.getfield 12, 3) := by decide +kernel
theorem dX8_spell_4 : decode cX8_spell 4 = .ok (.iload_n 1, 1) := by decide +kernel
theorem dX8_spell_5 : decode cX8_spell 5 = .ok (.invokevirtual 97, 3) := by decide +kernel
theorem dX8_spell_8 : decode cX8_spell 8 = .ok (.astore_n 3, 1) := by decide +kernel
theorem dX8_spell_9 : decode cX8_spell 9 = .ok (.aload_n 3, 1) := by decide +kernel
theorem dX8_spell_10 : decode cX8_spell 10 = .ok (.ifnull 8, 3) := by decide +kernel
theorem dX8_spell_13 : decode cX8_spell 13 = .ok (.iload_n 2, 1) := by decide +kernel
theorem dX8_spell_14 : decode cX8_spell 14 = .ok (.iconst (-1), 1) := by decide +kernel
theorem dX8_spell_15 : decode cX8_spell 15 = .ok (.if_icmp .ge 5, 3) := by decide +kernel
theorem dX8_spell_18 : decode cX8_spell 18 = .ok (.iconst (-1), 1) := by decide +kernel
theorem dX8_spell_19 : decode cX8_spell 19 = .ok (.ireturn, 1) := by decide +kernel
theorem dX8_spell_20 : decode cX8_spell 20 = .ok (.aload_n 3, 1) := by decide +kernel
theorem dX8_spell_21 : decode cX8_spell 21 = .ok (.invokevirtual 230, 3) := by decide +kernel
theorem dX8_spell_24 : decode cX8_spell 24 = .ok (.istore 4, 2) := by decide +kernel
theorem dX8_spell_26 : decode cX8_spell 26 = .ok (.iload_n 2, 1) := by decide +kernel
theorem dX8_spell_27 : decode cX8_spell 27 = .ok (.iconst (-1), 1) := by decide +kernel
theorem dX8_spell_28 : decode cX8_spell 28 = .ok (.if_icmp .ne 6, 3) := by decide +kernel
theorem dX8_spell_31 : decode cX8_spell 31 = .ok (.iload 4, 2) := by decide +kernel
theorem dX8_spell_33 : decode cX8_spell 33 = .ok (.ireturn, 1) := by decide +kernel
theorem dX8_spell_34 : decode cX8_spell 34 = .ok (.iload_n 2, 1) := by decide +kernel
theorem dX8_spell_35 : decode cX8_spell 35 = .ok (.iload 4, 2) := by decide +kernel
theorem dX8_spell_37 : decode cX8_spell 37 = .ok (.if_icmp .ge 11, 3) := by decide +kernel
theorem dX8_spell_40 : decode cX8_spell 40 = .ok (.aload_n 3, 1) := by decide +kernel
theorem dX8_spell_41 : decode cX8_spell 41 = .ok (.iload_n 2, 1) := by decide +kernel
theorem dX8_spell_42 : decode cX8_spell 42 = .ok (.invokevirtual 233, 3) := by decide +kernel
theorem dX8_spell_45 : decode cX8_spell 45 = .ok (.goto 5, 3) := by decide +kernel
theorem dX8_spell_48 : decode cX8_spell 48 = .ok (.bipush (-2), 2) := by decide +kernel
theorem dX8_spell_50 : decode cX8_spell 50 = .ok (.ireturn, 1) := by decide +kernel
theorem dX8_read_0 : decode cX8_read 0 = .ok (.iload_n 1, 1) := by decide +kernel
theorem dX8_read_1 : decode cX8_read 1 = .ok (.invokestatic 85, 3) := by decide +kernel
theorem dX8_read_4 : decode cX8_read 4 = .ok (.ifCond .ne 5, 3) := by decide +kernel
theorem dX8_read_7 : decode cX8_read 7 = .ok (.iconst (-1), 1) := by decide +kernel
theorem dX8_read_8 : decode cX8_read 8 = .ok (.ireturn, 1) := by decide +kernel
theorem dX8_read_9 : decode cX8_read 9 = .ok (.aload_n 0, 1) := by decide +kernel
theorem dX8_read_10 : decode cX8_read 10 = .ok (.getfield 35, 3) := by decide +kernel
theorem dX8_read_13 : decode cX8_read 13 = .ok (.aload_n 0, 1) := by decide +kernel
theorem dX8_read_14 : decode cX8_read 14 = .ok (.getfield 28, 3) := by decide +kernel
theorem dX8_read_17 : decode cX8_read 17 = .ok (.iload_n 1, 1) := by decide +kernel
theorem dX8_read_18 : decode cX8_read 18 = .ok (.invokevirtual 236, 3) := by decide +kernel
theorem dX8_read_21 : decode cX8_read 21 = .ok (.istore_n 2, 1) := by decide +kernel
theorem dX8_read_22 : decode cX8_read 22 = .ok (.aload_n 0, 1) := by decide +kernel
theorem dX8_read_23 : decode cX8_read 23 = .ok (.getfield 28, 3) := by decide +kernel
theorem dX8_read_26 : decode cX8_read 26 = .ok (.invokevirtual 206, 3) := by decide +kernel
theorem dX8_read_29 : decode cX8_read 29 = .ok (.iload_n 2, 1) := by decide +kernel
theorem dX8_read_30 : decode cX8_read 30 = .ok (.iconst (-1), 1) := by decide +kernel
theorem dX8_read_31 : decode cX8_read 31 = .ok (.if_icmp .eq 9, 3) := by decide +kernel
theorem dX8_read_34 : decode cX8_read 34 = .ok (.sipush (-1000), 3) := by decide +kernel
theorem dX8_read_37 : decode cX8_read 37 = .ok (.iload_n 2, 1) := by decide +kernel
theorem dX8_read_38 : decode cX8_read 38 = .ok (.isub, 1) := by decide +kernel
theorem dX8_read_39 : decode cX8_read 39 = .ok (.ireturn, 1) := by decide +kernel
theorem dX8_read_40 : decode cX8_read 40 = .ok (.aload_n 0, 1) := by decide +kernel
theorem dX8_read_41 : decode cX8_read 41 = .ok (.aload_n 0, 1) := by decide +kernel
theorem dX8_read_42 : decode cX8_read 42 = .ok (.getfield 35, 3) := by decide +kernel
theorem dX8_read_45 : decode cX8_read 45 = .ok (.getfield 239, 3) := by decide +kernel
theorem dX8_read_48 : decode cX8_read 48 = .ok (.aload_n 0, 1) := by decide +kernel
theorem dX8_read_49 : decode cX8_read 49 = .ok (.getfield 35, 3) := by decide +kernel
theorem dX8_read_52 : decode cX8_read 52 = .ok (.getfield 242, 3) := by decide +kernel
theorem dX8_read_55 : decode cX8_read 55 = .ok (.iload_n 1, 1) := by decide +kernel
theorem dX8_read_56 : decode cX8_read 56 = .ok (.invokevirtual 115, 3) := by decide +kernel
theorem dX8_read_59 : decode cX8_read 59 = .ok (.ireturn, 1) := by decide +kernel
theorem dX8_run_0 : decode cX8_run 0 = .ok (.aload_n 0, 1) := by decide +kernel
theorem dX8_run_1 : decode cX8_run 1 = .ok (.getfield 42, 3) := by decide +kernel
theorem dX8_run_4 : decode cX8_run 4 = .ok (.aload_n 0, 1) := by decide +kernel
theorem dX8_run_5 : decode cX8_run 5 = .ok (.getfield 28, 3) := by decide +kernel
theorem dX8_run_8 : decode cX8_run 8 = .ok (.invokevirtual 244, 3) := by decide +kernel
theorem dX8_run_11 : decode cX8_run 11 = .ok (.istore_n 1, 1) := by decide +kernel
theorem dX8_run_12 : decode cX8_run 12 = .ok (.aload_n 0, 1) := by decide +kernel
theorem dX8_run_13 : decode cX8_run 13 = .ok (.getfield 28, 3) := by decide +kernel
theorem dX8_run_16 : decode cX8_run 16 = .ok (.invokevirtual 206, 3) := by decide +kernel
theorem dX8_run_19 : decode cX8_run 19 = .ok (.iload_n 1, 1) := by decide +kernel
theorem dX8_run_20 : decode cX8_run 20 = .ok (.iconst (-1), 1) := by decide +kernel
theorem dX8_run_21 : decode cX8_run 21 = .ok (.if_icmp .eq 9, 3) := by decide +kernel
theorem dX8_run_24 : decode cX8_run 24 = .ok (.sipush (-1000), 3) := by decide +kernel
theorem dX8_run_27 : decode cX8_run 27 = .ok (.iload_n 1, 1) := by decide +kernel
theorem dX8_run_28 : decode cX8_run 28 = .ok (.isub, 1) := by decide +kernel
theorem dX8_run_29 : decode cX8_run 29 = .ok (.ireturn, 1) := by decide +kernel
theorem dX8_run_30 : decode cX8_run 30 = .ok (.iconst 0, 1) := by decide +kernel
theorem dX8_run_31 : decode cX8_run 31 = .ok (.istore_n 2, 1) := by decide +kernel
theorem dX8_run_32 : decode cX8_run 32 = .ok (.iload_n 2, 1) := by decide +kernel
theorem dX8_run_33 : decode cX8_run 33 = .ok (.aload_n 0, 1) := by decide +kernel
theorem dX8_run_34 : decode cX8_run 34 = .ok (.getfield 42, 3) := by decide +kernel
theorem dX8_run_37 : decode cX8_run 37 = .ok (.getfield 247, 3) := by decide +kernel
theorem dX8_run_40 : decode cX8_run 40 = .ok (.if_icmp .ge 23, 3) := by decide +kernel
theorem dX8_run_43 : decode cX8_run 43 = .ok (.aload_n 0, 1) := by decide +kernel
theorem dX8_run_44 : decode cX8_run 44 = .ok (.iload_n 2, 1) := by decide +kernel
theorem dX8_run_45 : decode cX8_run 45 = .ok (.invokevirtual 250, 3) := by decide +kernel
theorem dX8_run_48 : decode cX8_run 48 = .ok (.ifCond .ge 9, 3) := by decide +kernel
theorem dX8_run_51 : decode cX8_run 51 = .ok (.sipush (-2000), 3) := by decide +kernel
theorem dX8_run_54 : decode cX8_run 54 = .ok (.iload_n 2, 1) := by decide +kernel
theorem dX8_run_55 : decode cX8_run 55 = .ok (.isub, 1) := by decide +kernel
theorem dX8_run_56 : decode cX8_run 56 = .ok (.ireturn, 1) := by decide +kernel
theorem dX8_run_57 : decode cX8_run 57 = .ok (.iinc 2 1, 3) := by decide +kernel
theorem dX8_run_60 : decode cX8_run 60 = .ok (.goto (-28), 3) := by decide +kernel
theorem dX8_run_63 : decode cX8_run 63 = .ok (.aload_n 0, 1) := by decide +kernel
theorem dX8_run_64 : decode cX8_run 64 = .ok (.getfield 42, 3) := by decide +kernel
theorem dX8_run_67 : decode cX8_run 67 = .ok (.getfield 247, 3) := by decide +kernel
theorem dX8_run_70 : decode cX8_run 70 = .ok (.ireturn, 1) := by decide +kernel
theorem dX8_hold_0 : decode cX8_hold 0 = .ok (.aload_n 0, 1) := by decide +kernel
theorem dX8_hold_1 : decode cX8_hold 1 = .ok (.iload_n 1, 1) := by decide +kernel
theorem dX8_hold_2 : decode cX8_hold 2 = .ok (.invokevirtual 253, 3) := by decide +kernel
theorem dX8_hold_5 : decode cX8_hold 5 = .ok (.astore_n 3, 1) := by decide +kernel
theorem dX8_hold_6 : decode cX8_hold 6 = .ok (.aload_n 0, 1) := by decide +kernel
theorem dX8_hold_7 : decode cX8_hold 7 = .ok (.getfield 12, 3) := by decide +kernel
theorem dX8_hold_10 : decode cX8_hold 10 = .ok (.iload_n 2, 1) := by decide +kernel
theorem dX8_hold_11 : decode cX8_hold 11 = .ok (.invokevirtual 97, 3) := by decide +kernel
theorem dX8_hold_14 : decode cX8_hold 14 = .ok (.astore 4, 2) := by decide +kernel
theorem dX8_hold_16 : decode cX8_hold 16 = .ok (.aload_n 3, 1) := by decide +kernel
theorem dX8_hold_17 : decode cX8_hold 17 = .ok (.ifnull 8, 3) := by decide +kernel
theorem dX8_hold_20 : decode cX8_hold 20 = .ok (.aload 4, 2) := by decide +kernel
theorem dX8_hold_22 : decode cX8_hold 22 = .ok (.ifnonnull 5, 3) := by decide +kernel
theorem dX8_hold_25 : decode cX8_hold 25 = .ok (.iconst (-1), 1) := by decide +kernel
theorem dX8_hold_26 : decode cX8_hold 26 = .ok (.ireturn, 1) := by decide +kernel
theorem dX8_hold_27 : decode cX8_hold 27 = .ok (.aload_n 3, 1) := by decide +kernel
theorem dX8_hold_28 : decode cX8_hold 28 = .ok (.aload 4, 2) := by decide +kernel
theorem dX8_hold_30 : decode cX8_hold 30 = .ok (.invokevirtual 257, 3) := by decide +kernel
theorem dX8_hold_33 : decode cX8_hold 33 = .ok (.aload 4, 2) := by decide +kernel
theorem dX8_hold_35 : decode cX8_hold 35 = .ok (.invokevirtual 136, 3) := by decide +kernel
theorem dX8_hold_38 : decode cX8_hold 38 = .ok (.ireturn, 1) := by decide +kernel
theorem dX8_lose_0 : decode cX8_lose 0 = .ok (.aload_n 0, 1) := by decide +kernel
theorem dX8_lose_1 : decode cX8_lose 1 = .ok (.iload_n 1, 1) := by decide +kernel
theorem dX8_lose_2 : decode cX8_lose 2 = .ok (.invokevirtual 253, 3) := by decide +kernel
theorem dX8_lose_5 : decode cX8_lose 5 = .ok (.astore_n 2, 1) := by decide +kernel
theorem dX8_lose_6 : decode cX8_lose 6 = .ok (.aload_n 2, 1) := by decide +kernel
theorem dX8_lose_7 : decode cX8_lose 7 = .ok (.ifnonnull 5, 3) := by decide +kernel
theorem dX8_lose_10 : decode cX8_lose 10 = .ok (.iconst (-1), 1) := by decide +kernel
theorem dX8_lose_11 : decode cX8_lose 11 = .ok (.ireturn, 1) := by decide +kernel
theorem dX8_lose_12 : decode cX8_lose 12 = .ok (.aload_n 2, 1) := by decide +kernel
theorem dX8_lose_13 : decode cX8_lose 13 = .ok (.getfield 260, 3) := by decide +kernel
theorem dX8_lose_16 : decode cX8_lose 16 = .ok (.istore_n 3, 1) := by decide +kernel
theorem dX8_lose_17 : decode cX8_lose 17 = .ok (.aload_n 2, 1) := by decide +kernel
theorem dX8_lose_18 : decode cX8_lose 18 = .ok (.iconst 0, 1) := by decide +kernel
theorem dX8_lose_19 : decode cX8_lose 19 = .ok (.putfield 260, 3) := by decide +kernel
theorem dX8_lose_22 : decode cX8_lose 22 = .ok (.iload_n 3, 1) := by decide +kernel
theorem dX8_lose_23 : decode cX8_lose 23 = .ok (.ireturn, 1) := by decide +kernel
theorem dX8_taken_0 : decode cX8_taken 0 = .ok (.aload_n 0, 1) := by decide +kernel
theorem dX8_taken_1 : decode cX8_taken 1 = .ok (.iload_n 1, 1) := by decide +kernel
theorem dX8_taken_2 : decode cX8_taken 2 = .ok (.invokevirtual 253, 3) := by decide +kernel
theorem dX8_taken_5 : decode cX8_taken 5 = .ok (.astore_n 3, 1) := by decide +kernel
theorem dX8_taken_6 : decode cX8_taken 6 = .ok (.aload_n 3, 1) := by decide +kernel
theorem dX8_taken_7 : decode cX8_taken 7 = .ok (.ifnull 12, 3) := by decide +kernel
theorem dX8_taken_10 : decode cX8_taken 10 = .ok (.iload_n 2, 1) := by decide +kernel
theorem dX8_taken_11 : decode cX8_taken 11 = .ok (.iconst 0, 1) := by decide +kernel
theorem dX8_taken_12 : decode cX8_taken 12 = .ok (.iconst 3, 1) := by decide +kernel
theorem dX8_taken_13 : decode cX8_taken 13 = .ok (.invokestatic 81, 3) := by decide +kernel
theorem dX8_taken_16 : decode cX8_taken 16 = .ok (.ifCond .ne 5, 3) := by decide +kernel
theorem dX8_taken_19 : decode cX8_taken 19 = .ok (.iconst (-1), 1) := by decide +kernel
theorem dX8_taken_20 : decode cX8_taken 20 = .ok (.ireturn, 1) := by decide +kernel
theorem dX8_taken_21 : decode cX8_taken 21 = .ok (.aload_n 3, 1) := by decide +kernel
theorem dX8_taken_22 : decode cX8_taken 22 = .ok (.iconst 1, 1) := by decide +kernel
theorem dX8_taken_23 : decode cX8_taken 23 = .ok (.invokevirtual 263, 3) := by decide +kernel
theorem dX8_taken_26 : decode cX8_taken 26 = .ok (.istore 4, 2) := by decide +kernel
theorem dX8_taken_28 : decode cX8_taken 28 = .ok (.iload 4, 2) := by decide +kernel
theorem dX8_taken_30 : decode cX8_taken 30 = .ok (.ifCond .eq 6, 3) := by decide +kernel
theorem dX8_taken_33 : decode cX8_taken 33 = .ok (.iload 4, 2) := by decide +kernel
theorem dX8_taken_35 : decode cX8_taken 35 = .ok (.ireturn, 1) := by decide +kernel
theorem dX8_taken_36 : decode cX8_taken 36 = .ok (.aload_n 3, 1) := by decide +kernel
theorem dX8_taken_37 : decode cX8_taken 37 = .ok (.getfield 266, 3) := by decide +kernel
theorem dX8_taken_40 : decode cX8_taken 40 = .ok (.astore 5, 2) := by decide +kernel
theorem dX8_taken_42 : decode cX8_taken 42 = .ok (.iload_n 2, 1) := by decide +kernel
theorem dX8_taken_43 : decode cX8_taken 43 = .ok (.ifCond .ne 9, 3) := by decide +kernel
theorem dX8_taken_46 : decode cX8_taken 46 = .ok (.aload 5, 2) := by decide +kernel
theorem dX8_taken_48 : decode cX8_taken 48 = .ok (.getfield 101, 3) := by decide +kernel
theorem dX8_taken_51 : decode cX8_taken 51 = .ok (.ireturn, 1) := by decide +kernel
theorem dX8_taken_52 : decode cX8_taken 52 = .ok (.iload_n 2, 1) := by decide +kernel
theorem dX8_taken_53 : decode cX8_taken 53 = .ok (.iconst 1, 1) := by decide +kernel
theorem dX8_taken_54 : decode cX8_taken 54 = .ok (.isub, 1) := by decide +kernel
theorem dX8_taken_55 : decode cX8_taken 55 = .ok (.istore 6, 2) := by decide +kernel
theorem dX8_taken_57 : decode cX8_taken 57 = .ok (.aload 5, 2) := by decide +kernel
theorem dX8_taken_59 : decode cX8_taken 59 = .ok (.invokevirtual 136, 3) := by decide +kernel
theorem dX8_taken_62 : decode cX8_taken 62 = .ok (.iload 6, 2) := by decide +kernel
theorem dX8_taken_64 : decode cX8_taken 64 = .ok (.if_icmp .eq 6, 3) := by decide +kernel
theorem dX8_taken_67 : decode cX8_taken 67 = .ok (.bipush (-12), 2) := by decide +kernel
theorem dX8_taken_69 : decode cX8_taken 69 = .ok (.ireturn, 1) := by decide +kernel
theorem dX8_taken_70 : decode cX8_taken 70 = .ok (.iload 6, 2) := by decide +kernel
theorem dX8_taken_72 : decode cX8_taken 72 = .ok (.iconst 1, 1) := by decide +kernel
theorem dX8_taken_73 : decode cX8_taken 73 = .ok (.if_icmp .ne 11, 3) := by decide +kernel
theorem dX8_taken_76 : decode cX8_taken 76 = .ok (.aload 5, 2) := by decide +kernel
theorem dX8_taken_78 : decode cX8_taken 78 = .ok (.getfield 133, 3) := by decide +kernel
theorem dX8_taken_81 : decode cX8_taken 81 = .ok (.goto 8, 3) := by decide +kernel
theorem dX8_taken_84 : decode cX8_taken 84 = .ok (.aload 5, 2) := by decide +kernel
theorem dX8_taken_86 : decode cX8_taken 86 = .ok (.getfield 130, 3) := by decide +kernel
theorem dX8_taken_89 : decode cX8_taken 89 = .ok (.ireturn, 1) := by decide +kernel
theorem dX8_was_0 : decode cX8_was 0 = .ok (.aload_n 0, 1) := by decide +kernel
theorem dX8_was_1 : decode cX8_was 1 = .ok (.iload_n 1, 1) := by decide +kernel
theorem dX8_was_2 : decode cX8_was 2 = .ok (.invokevirtual 253, 3) := by decide +kernel
theorem dX8_was_5 : decode cX8_was 5 = .ok (.astore_n 3, 1) := by decide +kernel
theorem dX8_was_6 : decode cX8_was 6 = .ok (.aload_n 3, 1) := by decide +kernel
theorem dX8_was_7 : decode cX8_was 7 = .ok (.ifnull 14, 3) := by decide +kernel
theorem dX8_was_10 : decode cX8_was 10 = .ok (.iload_n 2, 1) := by decide +kernel
theorem dX8_was_11 : decode cX8_was 11 = .ok (.iconst 0, 1) := by decide +kernel
theorem dX8_was_12 : decode cX8_was 12 = .ok (.sipush 9999, 3) := by decide +kernel
theorem dX8_was_15 : decode cX8_was 15 = .ok (.invokestatic 81, 3) := by decide +kernel
theorem dX8_was_18 : decode cX8_was 18 = .ok (.ifCond .ne 5, 3) := by decide +kernel
theorem dX8_was_21 : decode cX8_was 21 = .ok (.iconst (-1), 1) := by decide +kernel
theorem dX8_was_22 : decode cX8_was 22 = .ok (.ireturn, 1) := by decide +kernel
theorem dX8_was_23 : decode cX8_was 23 = .ok (.aload_n 3, 1) := by decide +kernel
theorem dX8_was_24 : decode cX8_was 24 = .ok (.iconst 1, 1) := by decide +kernel
theorem dX8_was_25 : decode cX8_was 25 = .ok (.invokevirtual 263, 3) := by decide +kernel
theorem dX8_was_28 : decode cX8_was 28 = .ok (.istore 4, 2) := by decide +kernel
theorem dX8_was_30 : decode cX8_was 30 = .ok (.iload 4, 2) := by decide +kernel
theorem dX8_was_32 : decode cX8_was 32 = .ok (.ifCond .eq 6, 3) := by decide +kernel
theorem dX8_was_35 : decode cX8_was 35 = .ok (.iload 4, 2) := by decide +kernel
theorem dX8_was_37 : decode cX8_was 37 = .ok (.ireturn, 1) := by decide +kernel
theorem dX8_was_38 : decode cX8_was 38 = .ok (.aload_n 3, 1) := by decide +kernel
theorem dX8_was_39 : decode cX8_was 39 = .ok (.getfield 266, 3) := by decide +kernel
theorem dX8_was_42 : decode cX8_was 42 = .ok (.aload_n 3, 1) := by decide +kernel
theorem dX8_was_43 : decode cX8_was 43 = .ok (.getfield 266, 3) := by decide +kernel
theorem dX8_was_46 : decode cX8_was 46 = .ok (.iload_n 2, 1) := by decide +kernel
theorem dX8_was_47 : decode cX8_was 47 = .ok (.invokevirtual 139, 3) := by decide +kernel
theorem dX8_was_50 : decode cX8_was 50 = .ok (.invokevirtual 142, 3) := by decide +kernel
theorem dX8_was_53 : decode cX8_was 53 = .ok (.ireturn, 1) := by decide +kernel
theorem dX8_row_0 : decode cX8_row 0 = .ok (.aload_n 0, 1) := by decide +kernel
theorem dX8_row_1 : decode cX8_row 1 = .ok (.iload_n 1, 1) := by decide +kernel
theorem dX8_row_2 : decode cX8_row 2 = .ok (.invokevirtual 253, 3) := by decide +kernel
theorem dX8_row_5 : decode cX8_row 5 = .ok (.astore_n 3, 1) := by decide +kernel
theorem dX8_row_6 : decode cX8_row 6 = .ok (.aload_n 3, 1) := by decide +kernel
theorem dX8_row_7 : decode cX8_row 7 = .ok (.ifnull 9, 3) := by decide +kernel
theorem dX8_row_10 : decode cX8_row 10 = .ok (.iload_n 2, 1) := by decide +kernel
theorem dX8_row_11 : decode cX8_row 11 = .ok (.bipush 40, 2) := by decide +kernel
theorem dX8_row_13 : decode cX8_row 13 = .ok (.if_icmp .le 5, 3) := by decide +kernel
theorem dX8_row_16 : decode cX8_row 16 = .ok (.iconst (-1), 1) := by decide +kernel
theorem dX8_row_17 : decode cX8_row 17 = .ok (.ireturn, 1) := by decide +kernel
theorem dX8_row_18 : decode cX8_row 18 = .ok (.iload_n 2, 1) := by decide +kernel
theorem dX8_row_19 : decode cX8_row 19 = .ok (.ifCond .ge 6, 3) := by decide +kernel
theorem dX8_row_22 : decode cX8_row 22 = .ok (.bipush (-14), 2) := by decide +kernel
theorem dX8_row_24 : decode cX8_row 24 = .ok (.ireturn, 1) := by decide +kernel
theorem dX8_row_25 : decode cX8_row 25 = .ok (.aload_n 3, 1) := by decide +kernel
theorem dX8_row_26 : decode cX8_row 26 = .ok (.iload_n 2, 1) := by decide +kernel
theorem dX8_row_27 : decode cX8_row 27 = .ok (.invokevirtual 269, 3) := by decide +kernel
theorem dX8_row_30 : decode cX8_row 30 = .ok (.iload_n 2, 1) := by decide +kernel
theorem dX8_row_31 : decode cX8_row 31 = .ok (.ireturn, 1) := by decide +kernel
theorem dX8_put_0 : decode cX8_put 0 = .ok (.aload_n 0, 1) := by decide +kernel
theorem dX8_put_1 : decode cX8_put 1 = .ok (.iload_n 1, 1) := by decide +kernel
theorem dX8_put_2 : decode cX8_put 2 = .ok (.invokevirtual 253, 3) := by decide +kernel
theorem dX8_put_5 : decode cX8_put 5 = .ok (.astore 4, 2) := by decide +kernel
theorem dX8_put_7 : decode cX8_put 7 = .ok (.aload 4, 2) := by decide +kernel
theorem dX8_put_9 : decode cX8_put 9 = .ok (.ifnonnull 5, 3) := by decide +kernel
theorem dX8_put_12 : decode cX8_put 12 = .ok (.iconst (-1), 1) := by decide +kernel
theorem dX8_put_13 : decode cX8_put 13 = .ok (.ireturn, 1) := by decide +kernel
theorem dX8_put_14 : decode cX8_put 14 = .ok (.aload 4, 2) := by decide +kernel
theorem dX8_put_16 : decode cX8_put 16 = .ok (.iconst 2, 1) := by decide +kernel
theorem dX8_put_17 : decode cX8_put 17 = .ok (.invokevirtual 263, 3) := by decide +kernel
theorem dX8_put_20 : decode cX8_put 20 = .ok (.istore 5, 2) := by decide +kernel
theorem dX8_put_22 : decode cX8_put 22 = .ok (.iload 5, 2) := by decide +kernel
theorem dX8_put_24 : decode cX8_put 24 = .ok (.ifCond .eq 6, 3) := by decide +kernel
theorem dX8_put_27 : decode cX8_put 27 = .ok (.iload 5, 2) := by decide +kernel
theorem dX8_put_29 : decode cX8_put 29 = .ok (.ireturn, 1) := by decide +kernel
theorem dX8_put_30 : decode cX8_put 30 = .ok (.aload 4, 2) := by decide +kernel
theorem dX8_put_32 : decode cX8_put 32 = .ok (.iload_n 2, 1) := by decide +kernel
theorem dX8_put_33 : decode cX8_put 33 = .ok (.invokevirtual 272, 3) := by decide +kernel
theorem dX8_put_36 : decode cX8_put 36 = .ok (.ifCond .ne 6, 3) := by decide +kernel
theorem dX8_put_39 : decode cX8_put 39 = .ok (.bipush (-13), 2) := by decide +kernel
theorem dX8_put_41 : decode cX8_put 41 = .ok (.ireturn, 1) := by decide +kernel
theorem dX8_put_42 : decode cX8_put 42 = .ok (.aload 4, 2) := by decide +kernel
theorem dX8_put_44 : decode cX8_put 44 = .ok (.getfield 275, 3) := by decide +kernel
theorem dX8_put_47 : decode cX8_put 47 = .ok (.iload_n 2, 1) := by decide +kernel
theorem dX8_put_48 : decode cX8_put 48 = .ok (.iload_n 3, 1) := by decide +kernel
theorem dX8_put_49 : decode cX8_put 49 = .ok (.invokestatic 175, 3) := by decide +kernel
theorem dX8_put_52 : decode cX8_put 52 = .ok (.iconst 1, 1) := by decide +kernel
theorem dX8_put_53 : decode cX8_put 53 = .ok (.ireturn, 1) := by decide +kernel
theorem dX8_get_0 : decode cX8_get 0 = .ok (.aload_n 0, 1) := by decide +kernel
theorem dX8_get_1 : decode cX8_get 1 = .ok (.iload_n 1, 1) := by decide +kernel
theorem dX8_get_2 : decode cX8_get 2 = .ok (.invokevirtual 253, 3) := by decide +kernel
theorem dX8_get_5 : decode cX8_get 5 = .ok (.astore_n 3, 1) := by decide +kernel
theorem dX8_get_6 : decode cX8_get 6 = .ok (.aload_n 3, 1) := by decide +kernel
theorem dX8_get_7 : decode cX8_get 7 = .ok (.ifnull 19, 3) := by decide +kernel
theorem dX8_get_10 : decode cX8_get 10 = .ok (.aload_n 3, 1) := by decide +kernel
theorem dX8_get_11 : decode cX8_get 11 = .ok (.iconst 2, 1) := by decide +kernel
theorem dX8_get_12 : decode cX8_get 12 = .ok (.invokevirtual 263, 3) := by decide +kernel
theorem dX8_get_15 : decode cX8_get 15 = .ok (.ifCond .ne 11, 3) := by decide +kernel
theorem dX8_get_18 : decode cX8_get 18 = .ok (.aload_n 3, 1) := by decide +kernel
theorem dX8_get_19 : decode cX8_get 19 = .ok (.iload_n 2, 1) := by decide +kernel
theorem dX8_get_20 : decode cX8_get 20 = .ok (.invokevirtual 272, 3) := by decide +kernel
theorem dX8_get_23 : decode cX8_get 23 = .ok (.ifCond .ne 7, 3) := by decide +kernel
theorem dX8_get_26 : decode cX8_get 26 = .ok (.ldc2_w 220, 3) := by decide +kernel
theorem dX8_get_29 : decode cX8_get 29 = .ok (.lreturn, 1) := by decide +kernel
theorem dX8_get_30 : decode cX8_get 30 = .ok (.aload_n 3, 1) := by decide +kernel
theorem dX8_get_31 : decode cX8_get 31 = .ok (.getfield 275, 3) := by decide +kernel
theorem dX8_get_34 : decode cX8_get 34 = .ok (.iload_n 2, 1) := by decide +kernel
theorem dX8_get_35 : decode cX8_get 35 = .ok (.invokestatic 216, 3) := by decide +kernel
theorem dX8_get_38 : decode cX8_get 38 = .ok (.i2l, 1) := by decide +kernel
theorem dX8_get_39 : decode cX8_get 39 = .ok (.lreturn, 1) := by decide +kernel
theorem dX8_judge_0 : decode cX8_judge 0 = .ok (.aload_n 0, 1) := by decide +kernel
theorem dX8_judge_1 : decode cX8_judge 1 = .ok (.iload_n 1, 1) := by decide +kernel
theorem dX8_judge_2 : decode cX8_judge 2 = .ok (.invokevirtual 253, 3) := by decide +kernel
theorem dX8_judge_5 : decode cX8_judge 5 = .ok (.astore_n 3, 1) := by decide +kernel
theorem dX8_judge_6 : decode cX8_judge 6 = .ok (.aload_n 0, 1) := by decide +kernel
theorem dX8_judge_7 : decode cX8_judge 7 = .ok (.getfield 12, 3) := by decide +kernel
theorem dX8_judge_10 : decode cX8_judge 10 = .ok (.iload_n 2, 1) := by decide +kernel
theorem dX8_judge_11 : decode cX8_judge 11 = .ok (.invokevirtual 97, 3) := by decide +kernel
theorem dX8_judge_14 : decode cX8_judge 14 = .ok (.astore 4, 2) := by decide +kernel
theorem dX8_judge_16 : decode cX8_judge 16 = .ok (.aload_n 3, 1) := by decide +kernel
theorem dX8_judge_17 : decode cX8_judge 17 = .ok (.ifnull 8, 3) := by decide +kernel
theorem dX8_judge_20 : decode cX8_judge 20 = .ok (.aload 4, 2) := by decide +kernel
theorem dX8_judge_22 : decode cX8_judge 22 = .ok (.ifnonnull 5, 3) := by decide +kernel
theorem dX8_judge_25 : decode cX8_judge 25 = .ok (.iconst (-1), 1) := by decide +kernel
theorem dX8_judge_26 : decode cX8_judge 26 = .ok (.ireturn, 1) := by decide +kernel
theorem dX8_judge_27 : decode cX8_judge 27 = .ok (.aload_n 3, 1) := by decide +kernel
theorem dX8_judge_28 : decode cX8_judge 28 = .ok (.iconst 2, 1) := by decide +kernel
theorem dX8_judge_29 : decode cX8_judge 29 = .ok (.invokevirtual 263, 3) := by decide +kernel
theorem dX8_judge_32 : decode cX8_judge 32 = .ok (.istore 5, 2) := by decide +kernel
theorem dX8_judge_34 : decode cX8_judge 34 = .ok (.iload 5, 2) := by decide +kernel
theorem dX8_judge_36 : decode cX8_judge 36 = .ok (.ifCond .eq 6, 3) := by decide +kernel
theorem dX8_judge_39 : decode cX8_judge 39 = .ok (.iload 5, 2) := by decide +kernel
theorem dX8_judge_41 : decode cX8_judge 41 = .ok (.ireturn, 1) := by decide +kernel
theorem dX8_judge_42 : decode cX8_judge 42 = .ok (.aload_n 3, 1) := by decide +kernel
theorem dX8_judge_43 : decode cX8_judge 43 = .ok (.aload 4, 2) := by decide +kernel
theorem dX8_judge_45 : decode cX8_judge 45 = .ok (.invokevirtual 278, 3) := by decide +kernel
theorem dX8_judge_48 : decode cX8_judge 48 = .ok (.ireturn, 1) := by decide +kernel
theorem dX8_image_0 : decode cX8_image 0 = .ok (.aload_n 0, 1) := by decide +kernel
theorem dX8_image_1 : decode cX8_image 1 = .ok (.getfield 52, 3) := by decide +kernel
theorem dX8_image_4 : decode cX8_image 4 = .ok (.aload_n 0, 1) := by decide +kernel
theorem dX8_image_5 : decode cX8_image 5 = .ok (.getfield 12, 3) := by decide +kernel
theorem dX8_image_8 : decode cX8_image 8 = .ok (.invokevirtual 282, 3) := by decide +kernel
theorem dX8_image_11 : decode cX8_image 11 = .ok (.aload_n 0, 1) := by decide +kernel
theorem dX8_image_12 : decode cX8_image 12 = .ok (.getfield 55, 3) := by decide +kernel
theorem dX8_image_15 : decode cX8_image 15 = .ok (.aload_n 0, 1) := by decide +kernel
theorem dX8_image_16 : decode cX8_image 16 = .ok (.getfield 21, 3) := by decide +kernel
theorem dX8_image_19 : decode cX8_image 19 = .ok (.invokevirtual 286, 3) := by decide +kernel
theorem dX8_image_22 : decode cX8_image 22 = .ok (.aload_n 0, 1) := by decide +kernel
theorem dX8_image_23 : decode cX8_image 23 = .ok (.iconst 1, 1) := by decide +kernel
theorem dX8_image_24 : decode cX8_image 24 = .ok (.putfield 58, 3) := by decide +kernel
theorem dX8_image_27 : decode cX8_image 27 = .ok (.aload_n 0, 1) := by decide +kernel
theorem dX8_image_28 : decode cX8_image 28 = .ok (.getfield 12, 3) := by decide +kernel
theorem dX8_image_31 : decode cX8_image 31 = .ok (.getfield 289, 3) := by decide +kernel
theorem dX8_image_34 : decode cX8_image 34 = .ok (.ireturn, 1) := by decide +kernel
theorem dX8_undo_0 : decode cX8_undo 0 = .ok (.aload_n 0, 1) := by decide +kernel
theorem dX8_undo_1 : decode cX8_undo 1 = .ok (.getfield 58, 3) := by decide +kernel
theorem dX8_undo_4 : decode cX8_undo 4 = .ok (.ifCond .ne 6, 3) := by decide +kernel
theorem dX8_undo_7 : decode cX8_undo 7 = .ok (.bipush (-5), 2) := by decide +kernel
theorem dX8_undo_9 : decode cX8_undo 9 = .ok (.ireturn, 1) := by decide +kernel
theorem dX8_undo_10 : decode cX8_undo 10 = .ok (.aload_n 0, 1) := by decide +kernel
theorem dX8_undo_11 : decode cX8_undo 11 = .ok (.getfield 12, 3) := by decide +kernel
theorem dX8_undo_14 : decode cX8_undo 14 = .ok (.aload_n 0, 1) := by decide +kernel
theorem dX8_undo_15 : decode cX8_undo 15 = .ok (.getfield 52, 3) := by decide +kernel
theorem dX8_undo_18 : decode cX8_undo 18 = .ok (.invokevirtual 282, 3) := by decide +kernel
theorem dX8_undo_21 : decode cX8_undo 21 = .ok (.aload_n 0, 1) := by decide +kernel
theorem dX8_undo_22 : decode cX8_undo 22 = .ok (.getfield 21, 3) := by decide +kernel
theorem dX8_undo_25 : decode cX8_undo 25 = .ok (.aload_n 0, 1) := by decide +kernel
theorem dX8_undo_26 : decode cX8_undo 26 = .ok (.getfield 55, 3) := by decide +kernel
theorem dX8_undo_29 : decode cX8_undo 29 = .ok (.invokevirtual 286, 3) := by decide +kernel
theorem dX8_undo_32 : decode cX8_undo 32 = .ok (.aload_n 0, 1) := by decide +kernel
theorem dX8_undo_33 : decode cX8_undo 33 = .ok (.getfield 12, 3) := by decide +kernel
theorem dX8_undo_36 : decode cX8_undo 36 = .ok (.getfield 289, 3) := by decide +kernel
theorem dX8_undo_39 : decode cX8_undo 39 = .ok (.ireturn, 1) := by decide +kernel
theorem dX8_count_0 : decode cX8_count 0 = .ok (.iload_n 1, 1) := by decide +kernel
theorem dX8_count_1 : decode cX8_count 1 = .ok (.tableswitch 63 0 3 #[31, 39, 47, 55], 31) := by decide +kernel
theorem dX8_count_32 : decode cX8_count 32 = .ok (.aload_n 0, 1) := by decide +kernel
theorem dX8_count_33 : decode cX8_count 33 = .ok (.getfield 12, 3) := by decide +kernel
theorem dX8_count_36 : decode cX8_count 36 = .ok (.getfield 289, 3) := by decide +kernel
theorem dX8_count_39 : decode cX8_count 39 = .ok (.ireturn, 1) := by decide +kernel
theorem dX8_count_40 : decode cX8_count 40 = .ok (.aload_n 0, 1) := by decide +kernel
theorem dX8_count_41 : decode cX8_count 41 = .ok (.getfield 21, 3) := by decide +kernel
theorem dX8_count_44 : decode cX8_count 44 = .ok (.getfield 195, 3) := by decide +kernel
theorem dX8_count_47 : decode cX8_count 47 = .ok (.ireturn, 1) := by decide +kernel
theorem dX8_count_48 : decode cX8_count 48 = .ok (.aload_n 0, 1) := by decide +kernel
theorem dX8_count_49 : decode cX8_count 49 = .ok (.getfield 21, 3) := by decide +kernel
theorem dX8_count_52 : decode cX8_count 52 = .ok (.getfield 290, 3) := by decide +kernel
theorem dX8_count_55 : decode cX8_count 55 = .ok (.ireturn, 1) := by decide +kernel
theorem dX8_count_56 : decode cX8_count 56 = .ok (.aload_n 0, 1) := by decide +kernel
theorem dX8_count_57 : decode cX8_count 57 = .ok (.getfield 28, 3) := by decide +kernel
theorem dX8_count_60 : decode cX8_count 60 = .ok (.getfield 226, 3) := by decide +kernel
theorem dX8_count_63 : decode cX8_count 63 = .ok (.ireturn, 1) := by decide +kernel
theorem dX8_count_64 : decode cX8_count 64 = .ok (.iconst (-1), 1) := by decide +kernel
theorem dX8_count_65 : decode cX8_count 65 = .ok (.ireturn, 1) := by decide +kernel
theorem dX8_addInLowestTerms_0 : decode cX8_addInLowestTerms 0 = .ok (.lload_n 1, 1) := by decide +kernel
theorem dX8_addInLowestTerms_1 : decode cX8_addInLowestTerms 1 = .ok (.lload_n 3, 1) := by decide +kernel
theorem dX8_addInLowestTerms_2 : decode cX8_addInLowestTerms 2 = .ok (.invokestatic 119, 3) := by decide +kernel
theorem dX8_addInLowestTerms_5 : decode cX8_addInLowestTerms 5 = .ok (.lstore 6, 2) := by decide +kernel
theorem dX8_addInLowestTerms_7 : decode cX8_addInLowestTerms 7 = .ok (.lload_n 1, 1) := by decide +kernel
theorem dX8_addInLowestTerms_8 : decode cX8_addInLowestTerms 8 = .ok (.lload 6, 2) := by decide +kernel
theorem dX8_addInLowestTerms_10 : decode cX8_addInLowestTerms 10 = .ok (.invokestatic 123, 3) := by decide +kernel
theorem dX8_addInLowestTerms_13 : decode cX8_addInLowestTerms 13 = .ok (.lstore 8, 2) := by decide +kernel
theorem dX8_addInLowestTerms_15 : decode cX8_addInLowestTerms 15 = .ok (.lload_n 3, 1) := by decide +kernel
theorem dX8_addInLowestTerms_16 : decode cX8_addInLowestTerms 16 = .ok (.lload 6, 2) := by decide +kernel
theorem dX8_addInLowestTerms_18 : decode cX8_addInLowestTerms 18 = .ok (.invokestatic 123, 3) := by decide +kernel
theorem dX8_addInLowestTerms_21 : decode cX8_addInLowestTerms 21 = .ok (.lstore 10, 2) := by decide +kernel
theorem dX8_addInLowestTerms_23 : decode cX8_addInLowestTerms 23 = .ok (.lload 8, 2) := by decide +kernel
theorem dX8_addInLowestTerms_25 : decode cX8_addInLowestTerms 25 = .ok (.ldc2_w 291, 3) := by decide +kernel
theorem dX8_addInLowestTerms_28 : decode cX8_addInLowestTerms 28 = .ok (.lcmp, 1) := by decide +kernel
theorem dX8_addInLowestTerms_29 : decode cX8_addInLowestTerms 29 = .ok (.ifCond .gt 12, 3) := by decide +kernel
theorem dX8_addInLowestTerms_32 : decode cX8_addInLowestTerms 32 = .ok (.lload 10, 2) := by decide +kernel
theorem dX8_addInLowestTerms_34 : decode cX8_addInLowestTerms 34 = .ok (.ldc2_w 293, 3) := by decide +kernel
theorem dX8_addInLowestTerms_37 : decode cX8_addInLowestTerms 37 = .ok (.lcmp, 1) := by decide +kernel
theorem dX8_addInLowestTerms_38 : decode cX8_addInLowestTerms 38 = .ok (.ifCond .le 6, 3) := by decide +kernel
theorem dX8_addInLowestTerms_41 : decode cX8_addInLowestTerms 41 = .ok (.bipush (-6), 2) := by decide +kernel
theorem dX8_addInLowestTerms_43 : decode cX8_addInLowestTerms 43 = .ok (.ireturn, 1) := by decide +kernel
theorem dX8_addInLowestTerms_44 : decode cX8_addInLowestTerms 44 = .ok (.aload_n 0, 1) := by decide +kernel
theorem dX8_addInLowestTerms_45 : decode cX8_addInLowestTerms 45 = .ok (.getfield 12, 3) := by decide +kernel
theorem dX8_addInLowestTerms_48 : decode cX8_addInLowestTerms 48 = .ok (.lload 8, 2) := by decide +kernel
theorem dX8_addInLowestTerms_50 : decode cX8_addInLowestTerms 50 = .ok (.l2i, 1) := by decide +kernel
theorem dX8_addInLowestTerms_51 : decode cX8_addInLowestTerms 51 = .ok (.lload 10, 2) := by decide +kernel
theorem dX8_addInLowestTerms_53 : decode cX8_addInLowestTerms 53 = .ok (.l2i, 1) := by decide +kernel
theorem dX8_addInLowestTerms_54 : decode cX8_addInLowestTerms 54 = .ok (.iload 5, 2) := by decide +kernel
theorem dX8_addInLowestTerms_56 : decode cX8_addInLowestTerms 56 = .ok (.invokevirtual 89, 3) := by decide +kernel
theorem dX8_addInLowestTerms_59 : decode cX8_addInLowestTerms 59 = .ok (.ireturn, 1) := by decide +kernel
theorem dX8_markRing_0 : decode cX8_markRing 0 = .ok (.iload_n 1, 1) := by decide +kernel
theorem dX8_markRing_1 : decode cX8_markRing 1 = .ok (.istore 4, 2) := by decide +kernel
theorem dX8_markRing_3 : decode cX8_markRing 3 = .ok (.iconst 0, 1) := by decide +kernel
theorem dX8_markRing_4 : decode cX8_markRing 4 = .ok (.istore 5, 2) := by decide +kernel
theorem dX8_markRing_6 : decode cX8_markRing 6 = .ok (.iload 5, 2) := by decide +kernel
theorem dX8_markRing_8 : decode cX8_markRing 8 = .ok (.iload_n 3, 1) := by decide +kernel
theorem dX8_markRing_9 : decode cX8_markRing 9 = .ok (.if_icmp .ge 41, 3) := by decide +kernel
theorem dX8_markRing_12 : decode cX8_markRing 12 = .ok (.aload_n 0, 1) := by decide +kernel
theorem dX8_markRing_13 : decode cX8_markRing 13 = .ok (.getfield 76, 3) := by decide +kernel
theorem dX8_markRing_16 : decode cX8_markRing 16 = .ok (.iload 4, 2) := by decide +kernel
theorem dX8_markRing_18 : decode cX8_markRing 18 = .ok (.invokestatic 216, 3) := by decide +kernel
theorem dX8_markRing_21 : decode cX8_markRing 21 = .ok (.ifCond .ne 29, 3) := by decide +kernel
theorem dX8_markRing_24 : decode cX8_markRing 24 = .ok (.aload_n 0, 1) := by decide +kernel
theorem dX8_markRing_25 : decode cX8_markRing 25 = .ok (.getfield 76, 3) := by decide +kernel
theorem dX8_markRing_28 : decode cX8_markRing 28 = .ok (.iload 4, 2) := by decide +kernel
theorem dX8_markRing_30 : decode cX8_markRing 30 = .ok (.iconst 1, 1) := by decide +kernel
theorem dX8_markRing_31 : decode cX8_markRing 31 = .ok (.invokestatic 175, 3) := by decide +kernel
theorem dX8_markRing_34 : decode cX8_markRing 34 = .ok (.iload 4, 2) := by decide +kernel
theorem dX8_markRing_36 : decode cX8_markRing 36 = .ok (.iload_n 2, 1) := by decide +kernel
theorem dX8_markRing_37 : decode cX8_markRing 37 = .ok (.imul, 1) := by decide +kernel
theorem dX8_markRing_38 : decode cX8_markRing 38 = .ok (.iload_n 3, 1) := by decide +kernel
theorem dX8_markRing_39 : decode cX8_markRing 39 = .ok (.invokestatic 171, 3) := by decide +kernel
theorem dX8_markRing_42 : decode cX8_markRing 42 = .ok (.istore 4, 2) := by decide +kernel
theorem dX8_markRing_44 : decode cX8_markRing 44 = .ok (.iinc 5 1, 3) := by decide +kernel
theorem dX8_markRing_47 : decode cX8_markRing 47 = .ok (.goto (-41), 3) := by decide +kernel
theorem dX8_markRing_50 : decode cX8_markRing 50 = .ok (.iload 5, 2) := by decide +kernel
theorem dX8_markRing_52 : decode cX8_markRing 52 = .ok (.ireturn, 1) := by decide +kernel
theorem dX8_doCommand_0 : decode cX8_doCommand 0 = .ok (.aload_n 0, 1) := by decide +kernel
theorem dX8_doCommand_1 : decode cX8_doCommand 1 = .ok (.getfield 42, 3) := by decide +kernel
theorem dX8_doCommand_4 : decode cX8_doCommand 4 = .ok (.iload_n 1, 1) := by decide +kernel
theorem dX8_doCommand_5 : decode cX8_doCommand 5 = .ok (.iconst 0, 1) := by decide +kernel
theorem dX8_doCommand_6 : decode cX8_doCommand 6 = .ok (.invokevirtual 295, 3) := by decide +kernel
theorem dX8_doCommand_9 : decode cX8_doCommand 9 = .ok (.istore_n 2, 1) := by decide +kernel
theorem dX8_doCommand_10 : decode cX8_doCommand 10 = .ok (.aload_n 0, 1) := by decide +kernel
theorem dX8_doCommand_11 : decode cX8_doCommand 11 = .ok (.getfield 42, 3) := by decide +kernel
theorem dX8_doCommand_14 : decode cX8_doCommand 14 = .ok (.iload_n 1, 1) := by decide +kernel
theorem dX8_doCommand_15 : decode cX8_doCommand 15 = .ok (.iconst 1, 1) := by decide +kernel
theorem dX8_doCommand_16 : decode cX8_doCommand 16 = .ok (.invokevirtual 295, 3) := by decide +kernel
theorem dX8_doCommand_19 : decode cX8_doCommand 19 = .ok (.istore_n 3, 1) := by decide +kernel
theorem dX8_doCommand_20 : decode cX8_doCommand 20 = .ok (.aload_n 0, 1) := by decide +kernel
theorem dX8_doCommand_21 : decode cX8_doCommand 21 = .ok (.getfield 42, 3) := by decide +kernel
theorem dX8_doCommand_24 : decode cX8_doCommand 24 = .ok (.iload_n 1, 1) := by decide +kernel
theorem dX8_doCommand_25 : decode cX8_doCommand 25 = .ok (.invokevirtual 298, 3) := by decide +kernel
theorem dX8_doCommand_28 : decode cX8_doCommand 28 = .ok (.tableswitch 78 0 4 #[36, 52, 58, 65, 72], 36) := by decide +kernel
theorem dX8_doCommand_64 : decode cX8_doCommand 64 = .ok (.aload_n 0, 1) := by decide +kernel
theorem dX8_doCommand_65 : decode cX8_doCommand 65 = .ok (.iload_n 2, 1) := by decide +kernel
theorem dX8_doCommand_66 : decode cX8_doCommand 66 = .ok (.iload_n 3, 1) := by decide +kernel
theorem dX8_doCommand_67 : decode cX8_doCommand 67 = .ok (.aload_n 0, 1) := by decide +kernel
theorem dX8_doCommand_68 : decode cX8_doCommand 68 = .ok (.getfield 42, 3) := by decide +kernel
theorem dX8_doCommand_71 : decode cX8_doCommand 71 = .ok (.iload_n 1, 1) := by decide +kernel
theorem dX8_doCommand_72 : decode cX8_doCommand 72 = .ok (.iconst 2, 1) := by decide +kernel
theorem dX8_doCommand_73 : decode cX8_doCommand 73 = .ok (.invokevirtual 295, 3) := by decide +kernel
theorem dX8_doCommand_76 : decode cX8_doCommand 76 = .ok (.invokevirtual 301, 3) := by decide +kernel
theorem dX8_doCommand_79 : decode cX8_doCommand 79 = .ok (.ireturn, 1) := by decide +kernel
theorem dX8_doCommand_80 : decode cX8_doCommand 80 = .ok (.aload_n 0, 1) := by decide +kernel
theorem dX8_doCommand_81 : decode cX8_doCommand 81 = .ok (.iload_n 2, 1) := by decide +kernel
theorem dX8_doCommand_82 : decode cX8_doCommand 82 = .ok (.invokevirtual 303, 3) := by decide +kernel
theorem dX8_doCommand_85 : decode cX8_doCommand 85 = .ok (.ireturn, 1) := by decide +kernel
theorem dX8_doCommand_86 : decode cX8_doCommand 86 = .ok (.aload_n 0, 1) := by decide +kernel
theorem dX8_doCommand_87 : decode cX8_doCommand 87 = .ok (.iload_n 2, 1) := by decide +kernel
theorem dX8_doCommand_88 : decode cX8_doCommand 88 = .ok (.iload_n 3, 1) := by decide +kernel
theorem dX8_doCommand_89 : decode cX8_doCommand 89 = .ok (.invokevirtual 306, 3) := by decide +kernel
theorem dX8_doCommand_92 : decode cX8_doCommand 92 = .ok (.ireturn, 1) := by decide +kernel
theorem dX8_doCommand_93 : decode cX8_doCommand 93 = .ok (.aload_n 0, 1) := by decide +kernel
theorem dX8_doCommand_94 : decode cX8_doCommand 94 = .ok (.iload_n 2, 1) := by decide +kernel
theorem dX8_doCommand_95 : decode cX8_doCommand 95 = .ok (.iload_n 3, 1) := by decide +kernel
theorem dX8_doCommand_96 : decode cX8_doCommand 96 = .ok (.invokevirtual 309, 3) := by decide +kernel
theorem dX8_doCommand_99 : decode cX8_doCommand 99 = .ok (.ireturn, 1) := by decide +kernel
theorem dX8_doCommand_100 : decode cX8_doCommand 100 = .ok (.aload_n 0, 1) := by decide +kernel
theorem dX8_doCommand_101 : decode cX8_doCommand 101 = .ok (.iload_n 2, 1) := by decide +kernel
theorem dX8_doCommand_102 : decode cX8_doCommand 102 = .ok (.invokevirtual 312, 3) := by decide +kernel
theorem dX8_doCommand_105 : decode cX8_doCommand 105 = .ok (.ireturn, 1) := by decide +kernel
theorem dX8_doCommand_106 : decode cX8_doCommand 106 = .ok (.iconst (-1), 1) := by decide +kernel
theorem dX8_doCommand_107 : decode cX8_doCommand 107 = .ok (.ireturn, 1) := by decide +kernel
theorem dX8_holderAt_0 : decode cX8_holderAt 0 = .ok (.iload_n 1, 1) := by decide +kernel
theorem dX8_holderAt_1 : decode cX8_holderAt 1 = .ok (.ifCond .lt 21, 3) := by decide +kernel
theorem dX8_holderAt_4 : decode cX8_holderAt 4 = .ok (.iload_n 1, 1) := by decide +kernel
theorem dX8_holderAt_5 : decode cX8_holderAt 5 = .ok (.aload_n 0, 1) := by decide +kernel
theorem dX8_holderAt_6 : decode cX8_holderAt 6 = .ok (.getfield 48, 3) := by decide +kernel
theorem dX8_holderAt_9 : decode cX8_holderAt 9 = .ok (.arraylength, 1) := by decide +kernel
theorem dX8_holderAt_10 : decode cX8_holderAt 10 = .ok (.if_icmp .ge 12, 3) := by decide +kernel
theorem dX8_holderAt_13 : decode cX8_holderAt 13 = .ok (.aload_n 0, 1) := by decide +kernel
theorem dX8_holderAt_14 : decode cX8_holderAt 14 = .ok (.getfield 48, 3) := by decide +kernel
theorem dX8_holderAt_17 : decode cX8_holderAt 17 = .ok (.iload_n 1, 1) := by decide +kernel
theorem dX8_holderAt_18 : decode cX8_holderAt 18 = .ok (.aaload, 1) := by decide +kernel
theorem dX8_holderAt_19 : decode cX8_holderAt 19 = .ok (.goto 4, 3) := by decide +kernel
theorem dX8_holderAt_22 : decode cX8_holderAt 22 = .ok (.aconst_null, 1) := by decide +kernel
theorem dX8_holderAt_23 : decode cX8_holderAt 23 = .ok (.areturn, 1) := by decide +kernel
theorem dX8_isWithin_0 : decode cX8_isWithin 0 = .ok (.iload_n 0, 1) := by decide +kernel
theorem dX8_isWithin_1 : decode cX8_isWithin 1 = .ok (.iload_n 1, 1) := by decide +kernel
theorem dX8_isWithin_2 : decode cX8_isWithin 2 = .ok (.if_icmp .lt 12, 3) := by decide +kernel
theorem dX8_isWithin_5 : decode cX8_isWithin 5 = .ok (.iload_n 0, 1) := by decide +kernel
theorem dX8_isWithin_6 : decode cX8_isWithin 6 = .ok (.iload_n 2, 1) := by decide +kernel
theorem dX8_isWithin_7 : decode cX8_isWithin 7 = .ok (.if_icmp .gt 7, 3) := by decide +kernel
theorem dX8_isWithin_10 : decode cX8_isWithin 10 = .ok (.iconst 1, 1) := by decide +kernel
theorem dX8_isWithin_11 : decode cX8_isWithin 11 = .ok (.goto 4, 3) := by decide +kernel
theorem dX8_isWithin_14 : decode cX8_isWithin 14 = .ok (.iconst 0, 1) := by decide +kernel
theorem dX8_isWithin_15 : decode cX8_isWithin 15 = .ok (.ireturn, 1) := by decide +kernel
theorem dX8_isBase_0 : decode cX8_isBase 0 = .ok (.iload_n 0, 1) := by decide +kernel
theorem dX8_isBase_1 : decode cX8_isBase 1 = .ok (.iconst 2, 1) := by decide +kernel
theorem dX8_isBase_2 : decode cX8_isBase 2 = .ok (.bipush 16, 2) := by decide +kernel
theorem dX8_isBase_4 : decode cX8_isBase 4 = .ok (.invokestatic 81, 3) := by decide +kernel
theorem dX8_isBase_7 : decode cX8_isBase 7 = .ok (.ireturn, 1) := by decide +kernel
theorem dX8_isPrime_0 : decode cX8_isPrime 0 = .ok (.iconst 2, 1) := by decide +kernel
theorem dX8_isPrime_1 : decode cX8_isPrime 1 = .ok (.istore_n 1, 1) := by decide +kernel
theorem dX8_isPrime_2 : decode cX8_isPrime 2 = .ok (.iload_n 1, 1) := by decide +kernel
theorem dX8_isPrime_3 : decode cX8_isPrime 3 = .ok (.iload_n 1, 1) := by decide +kernel
theorem dX8_isPrime_4 : decode cX8_isPrime 4 = .ok (.imul, 1) := by decide +kernel
theorem dX8_isPrime_5 : decode cX8_isPrime 5 = .ok (.iload_n 0, 1) := by decide +kernel
theorem dX8_isPrime_6 : decode cX8_isPrime 6 = .ok (.if_icmp .gt 19, 3) := by decide +kernel
theorem dX8_isPrime_9 : decode cX8_isPrime 9 = .ok (.iload_n 0, 1) := by decide +kernel
theorem dX8_isPrime_10 : decode cX8_isPrime 10 = .ok (.iload_n 1, 1) := by decide +kernel
theorem dX8_isPrime_11 : decode cX8_isPrime 11 = .ok (.invokestatic 171, 3) := by decide +kernel
theorem dX8_isPrime_14 : decode cX8_isPrime 14 = .ok (.ifCond .ne 5, 3) := by decide +kernel
theorem dX8_isPrime_17 : decode cX8_isPrime 17 = .ok (.iconst 0, 1) := by decide +kernel
theorem dX8_isPrime_18 : decode cX8_isPrime 18 = .ok (.ireturn, 1) := by decide +kernel
theorem dX8_isPrime_19 : decode cX8_isPrime 19 = .ok (.iinc 1 1, 3) := by decide +kernel
theorem dX8_isPrime_22 : decode cX8_isPrime 22 = .ok (.goto (-20), 3) := by decide +kernel
theorem dX8_isPrime_25 : decode cX8_isPrime 25 = .ok (.iload_n 0, 1) := by decide +kernel
theorem dX8_isPrime_26 : decode cX8_isPrime 26 = .ok (.iconst 1, 1) := by decide +kernel
theorem dX8_isPrime_27 : decode cX8_isPrime 27 = .ok (.if_icmp .le 7, 3) := by decide +kernel
theorem dX8_isPrime_30 : decode cX8_isPrime 30 = .ok (.iconst 1, 1) := by decide +kernel
theorem dX8_isPrime_31 : decode cX8_isPrime 31 = .ok (.goto 4, 3) := by decide +kernel
theorem dX8_isPrime_34 : decode cX8_isPrime 34 = .ok (.iconst 0, 1) := by decide +kernel
theorem dX8_isPrime_35 : decode cX8_isPrime 35 = .ok (.ireturn, 1) := by decide +kernel
theorem dX8_commonDivisor_0 : decode cX8_commonDivisor 0 = .ok (.lload_n 0, 1) := by decide +kernel
theorem dX8_commonDivisor_1 : decode cX8_commonDivisor 1 = .ok (.lstore 4, 2) := by decide +kernel
theorem dX8_commonDivisor_3 : decode cX8_commonDivisor 3 = .ok (.lload_n 2, 1) := by decide +kernel
theorem dX8_commonDivisor_4 : decode cX8_commonDivisor 4 = .ok (.lstore 6, 2) := by decide +kernel
theorem dX8_commonDivisor_6 : decode cX8_commonDivisor 6 = .ok (.iconst 0, 1) := by decide +kernel
theorem dX8_commonDivisor_7 : decode cX8_commonDivisor 7 = .ok (.istore 8, 2) := by decide +kernel
theorem dX8_commonDivisor_9 : decode cX8_commonDivisor 9 = .ok (.iload 8, 2) := by decide +kernel
theorem dX8_commonDivisor_11 : decode cX8_commonDivisor 11 = .ok (.sipush 1000, 3) := by decide +kernel
theorem dX8_commonDivisor_14 : decode cX8_commonDivisor 14 = .ok (.if_icmp .ge 31, 3) := by decide +kernel
theorem dX8_commonDivisor_17 : decode cX8_commonDivisor 17 = .ok (.lload 6, 2) := by decide +kernel
theorem dX8_commonDivisor_19 : decode cX8_commonDivisor 19 = .ok (.lconst 0, 1) := by decide +kernel
theorem dX8_commonDivisor_20 : decode cX8_commonDivisor 20 = .ok (.lcmp, 1) := by decide +kernel
theorem dX8_commonDivisor_21 : decode cX8_commonDivisor 21 = .ok (.ifCond .eq 24, 3) := by decide +kernel
theorem dX8_commonDivisor_24 : decode cX8_commonDivisor 24 = .ok (.lload 4, 2) := by decide +kernel
theorem dX8_commonDivisor_26 : decode cX8_commonDivisor 26 = .ok (.lload 6, 2) := by decide +kernel
theorem dX8_commonDivisor_28 : decode cX8_commonDivisor 28 = .ok (.lrem, 1) := by decide +kernel
theorem dX8_commonDivisor_29 : decode cX8_commonDivisor 29 = .ok (.lstore 9, 2) := by decide +kernel
theorem dX8_commonDivisor_31 : decode cX8_commonDivisor 31 = .ok (.lload 6, 2) := by decide +kernel
theorem dX8_commonDivisor_33 : decode cX8_commonDivisor 33 = .ok (.lstore 4, 2) := by decide +kernel
theorem dX8_commonDivisor_35 : decode cX8_commonDivisor 35 = .ok (.lload 9, 2) := by decide +kernel
theorem dX8_commonDivisor_37 : decode cX8_commonDivisor 37 = .ok (.lstore 6, 2) := by decide +kernel
theorem dX8_commonDivisor_39 : decode cX8_commonDivisor 39 = .ok (.iinc 8 1, 3) := by decide +kernel
theorem dX8_commonDivisor_42 : decode cX8_commonDivisor 42 = .ok (.goto (-33), 3) := by decide +kernel
theorem dX8_commonDivisor_45 : decode cX8_commonDivisor 45 = .ok (.lload 4, 2) := by decide +kernel
theorem dX8_commonDivisor_47 : decode cX8_commonDivisor 47 = .ok (.lreturn, 1) := by decide +kernel
theorem dX8_power_0 : decode cX8_power 0 = .ok (.lconst 1, 1) := by decide +kernel
theorem dX8_power_1 : decode cX8_power 1 = .ok (.lstore_n 2, 1) := by decide +kernel
theorem dX8_power_2 : decode cX8_power 2 = .ok (.iconst 0, 1) := by decide +kernel
theorem dX8_power_3 : decode cX8_power 3 = .ok (.istore 4, 2) := by decide +kernel
theorem dX8_power_5 : decode cX8_power 5 = .ok (.iload 4, 2) := by decide +kernel
theorem dX8_power_7 : decode cX8_power 7 = .ok (.iload_n 1, 1) := by decide +kernel
theorem dX8_power_8 : decode cX8_power 8 = .ok (.if_icmp .ge 14, 3) := by decide +kernel
theorem dX8_power_11 : decode cX8_power 11 = .ok (.lload_n 2, 1) := by decide +kernel
theorem dX8_power_12 : decode cX8_power 12 = .ok (.iload_n 0, 1) := by decide +kernel
theorem dX8_power_13 : decode cX8_power 13 = .ok (.i2l, 1) := by decide +kernel
theorem dX8_power_14 : decode cX8_power 14 = .ok (.lmul, 1) := by decide +kernel
theorem dX8_power_15 : decode cX8_power 15 = .ok (.lstore_n 2, 1) := by decide +kernel
theorem dX8_power_16 : decode cX8_power 16 = .ok (.iinc 4 1, 3) := by decide +kernel
theorem dX8_power_19 : decode cX8_power 19 = .ok (.goto (-14), 3) := by decide +kernel
theorem dX8_power_22 : decode cX8_power 22 = .ok (.lload_n 2, 1) := by decide +kernel
theorem dX8_power_23 : decode cX8_power 23 = .ok (.lreturn, 1) := by decide +kernel
theorem dX8_remainder_0 : decode cX8_remainder 0 = .ok (.iload_n 1, 1) := by decide +kernel
theorem dX8_remainder_1 : decode cX8_remainder 1 = .ok (.ifCond .ne 7, 3) := by decide +kernel
theorem dX8_remainder_4 : decode cX8_remainder 4 = .ok (.iconst 0, 1) := by decide +kernel
theorem dX8_remainder_5 : decode cX8_remainder 5 = .ok (.goto 6, 3) := by decide +kernel
theorem dX8_remainder_8 : decode cX8_remainder 8 = .ok (.iload_n 0, 1) := by decide +kernel
theorem dX8_remainder_9 : decode cX8_remainder 9 = .ok (.iload_n 1, 1) := by decide +kernel
theorem dX8_remainder_10 : decode cX8_remainder 10 = .ok (.irem, 1) := by decide +kernel
theorem dX8_remainder_11 : decode cX8_remainder 11 = .ok (.ireturn, 1) := by decide +kernel
theorem dX8_quotient_0 : decode cX8_quotient 0 = .ok (.lload_n 2, 1) := by decide +kernel
theorem dX8_quotient_1 : decode cX8_quotient 1 = .ok (.lconst 0, 1) := by decide +kernel
theorem dX8_quotient_2 : decode cX8_quotient 2 = .ok (.lcmp, 1) := by decide +kernel
theorem dX8_quotient_3 : decode cX8_quotient 3 = .ok (.ifCond .ne 7, 3) := by decide +kernel
theorem dX8_quotient_6 : decode cX8_quotient 6 = .ok (.lconst 0, 1) := by decide +kernel
theorem dX8_quotient_7 : decode cX8_quotient 7 = .ok (.goto 6, 3) := by decide +kernel
theorem dX8_quotient_10 : decode cX8_quotient 10 = .ok (.lload_n 0, 1) := by decide +kernel
theorem dX8_quotient_11 : decode cX8_quotient 11 = .ok (.lload_n 2, 1) := by decide +kernel
theorem dX8_quotient_12 : decode cX8_quotient 12 = .ok (.ldiv, 1) := by decide +kernel
theorem dX8_quotient_13 : decode cX8_quotient 13 = .ok (.lreturn, 1) := by decide +kernel
theorem dX8_valueAt_0 : decode cX8_valueAt 0 = .ok (.iload_n 1, 1) := by decide +kernel
theorem dX8_valueAt_1 : decode cX8_valueAt 1 = .ok (.ifCond .lt 15, 3) := by decide +kernel
theorem dX8_valueAt_4 : decode cX8_valueAt 4 = .ok (.iload_n 1, 1) := by decide +kernel
theorem dX8_valueAt_5 : decode cX8_valueAt 5 = .ok (.aload_n 0, 1) := by decide +kernel
theorem dX8_valueAt_6 : decode cX8_valueAt 6 = .ok (.arraylength, 1) := by decide +kernel
theorem dX8_valueAt_7 : decode cX8_valueAt 7 = .ok (.if_icmp .ge 9, 3) := by decide +kernel
theorem dX8_valueAt_10 : decode cX8_valueAt 10 = .ok (.aload_n 0, 1) := by decide +kernel
theorem dX8_valueAt_11 : decode cX8_valueAt 11 = .ok (.iload_n 1, 1) := by decide +kernel
theorem dX8_valueAt_12 : decode cX8_valueAt 12 = .ok (.iaload, 1) := by decide +kernel
theorem dX8_valueAt_13 : decode cX8_valueAt 13 = .ok (.goto 4, 3) := by decide +kernel
theorem dX8_valueAt_16 : decode cX8_valueAt 16 = .ok (.iconst 0, 1) := by decide +kernel
theorem dX8_valueAt_17 : decode cX8_valueAt 17 = .ok (.ireturn, 1) := by decide +kernel
theorem dX8_setAt_0 : decode cX8_setAt 0 = .ok (.iload_n 1, 1) := by decide +kernel
theorem dX8_setAt_1 : decode cX8_setAt 1 = .ok (.ifCond .lt 13, 3) := by decide +kernel
theorem dX8_setAt_4 : decode cX8_setAt 4 = .ok (.iload_n 1, 1) := by decide +kernel
theorem dX8_setAt_5 : decode cX8_setAt 5 = .ok (.aload_n 0, 1) := by decide +kernel
theorem dX8_setAt_6 : decode cX8_setAt 6 = .ok (.arraylength, 1) := by decide +kernel
theorem dX8_setAt_7 : decode cX8_setAt 7 = .ok (.if_icmp .ge 7, 3) := by decide +kernel
theorem dX8_setAt_10 : decode cX8_setAt 10 = .ok (.aload_n 0, 1) := by decide +kernel
theorem dX8_setAt_11 : decode cX8_setAt 11 = .ok (.iload_n 1, 1) := by decide +kernel
theorem dX8_setAt_12 : decode cX8_setAt 12 = .ok (.iload_n 2, 1) := by decide +kernel
theorem dX8_setAt_13 : decode cX8_setAt 13 = .ok (.iastore, 1) := by decide +kernel
theorem dX8_setAt_14 : decode cX8_setAt 14 = .ok (.return_, 1) := by decide +kernel
theorem dX9_init_0 : decode cX9_init 0 = .ok (.aload_n 0, 1) := by decide +kernel
theorem dX9_init_1 : decode cX9_init 1 = .ok (.invokespecial 3, 3) := by decide +kernel
theorem dX9_init_4 : decode cX9_init 4 = .ok (.aload_n 0, 1) := by decide +kernel
theorem dX9_init_5 : decode cX9_init 5 = .ok (.bipush 8, 2) := by decide +kernel
theorem dX9_init_7 : decode cX9_init 7 = .ok (.newarray .int, 2) := by decide +kernel
theorem dX9_init_9 : decode cX9_init 9 = .ok (.putfield 11, 3) := by decide +kernel
theorem dX9_init_12 : decode cX9_init 12 = .ok (.aload_n 0, 1) := by decide +kernel
theorem dX9_init_13 : decode cX9_init 13 = .ok (.bipush 8, 2) := by decide +kernel
theorem dX9_init_15 : decode cX9_init 15 = .ok (.newarray .int, 2) := by decide +kernel
theorem dX9_init_17 : decode cX9_init 17 = .ok (.putfield 15, 3) := by decide +kernel
theorem dX9_init_20 : decode cX9_init 20 = .ok (.aload_n 0, 1) := by decide +kernel
theorem dX9_init_21 : decode cX9_init 21 = .ok (.bipush 8, 2) := by decide +kernel
theorem dX9_init_23 : decode cX9_init 23 = .ok (.newarray .int, 2) := by decide +kernel
theorem dX9_init_25 : decode cX9_init 25 = .ok (.putfield 18, 3) := by decide +kernel
theorem dX9_init_28 : decode cX9_init 28 = .ok (.aload_n 0, 1) := by decide +kernel
theorem dX9_init_29 : decode cX9_init 29 = .ok (.sipush 1000, 3) := by decide +kernel
theorem dX9_init_32 : decode cX9_init 32 = .ok (.newarray .int, 2) := by decide +kernel
theorem dX9_init_34 : decode cX9_init 34 = .ok (.putfield 21, 3) := by decide +kernel
theorem dX9_init_37 : decode cX9_init 37 = .ok (.aload_n 0, 1) := by decide +kernel
theorem dX9_init_38 : decode cX9_init 38 = .ok (.sipush 1000, 3) := by decide +kernel
theorem dX9_init_41 : decode cX9_init 41 = .ok (.newarray .int, 2) := by decide +kernel
theorem dX9_init_43 : decode cX9_init 43 = .ok (.putfield 24, 3) := by decide +kernel
theorem dX9_init_46 : decode cX9_init 46 = .ok (.aload_n 0, 1) := by decide +kernel
theorem dX9_init_47 : decode cX9_init 47 = .ok (.sipush 1000, 3) := by decide +kernel
theorem dX9_init_50 : decode cX9_init 50 = .ok (.newarray .int, 2) := by decide +kernel
theorem dX9_init_52 : decode cX9_init 52 = .ok (.putfield 27, 3) := by decide +kernel
theorem dX9_init_55 : decode cX9_init 55 = .ok (.aload_n 0, 1) := by decide +kernel
theorem dX9_init_56 : decode cX9_init 56 = .ok (.sipush 1000, 3) := by decide +kernel
theorem dX9_init_59 : decode cX9_init 59 = .ok (.newarray .int, 2) := by decide +kernel
theorem dX9_init_61 : decode cX9_init 61 = .ok (.putfield 30, 3) := by decide +kernel
theorem dX9_init_64 : decode cX9_init 64 = .ok (.aload_n 0, 1) := by decide +kernel
theorem dX9_init_65 : decode cX9_init 65 = .ok (.sipush 1000, 3) := by decide +kernel
theorem dX9_init_68 : decode cX9_init 68 = .ok (.newarray .int, 2) := by decide +kernel
theorem dX9_init_70 : decode cX9_init 70 = .ok (.putfield 33, 3) := by decide +kernel
theorem dX9_init_73 : decode cX9_init 73 = .ok (.aload_n 0, 1) := by decide +kernel
theorem dX9_init_74 : decode cX9_init 74 = .ok (.bipush 10, 2) := by decide +kernel
theorem dX9_init_76 : decode cX9_init 76 = .ok (.putfield 36, 3) := by decide +kernel
theorem dX9_init_79 : decode cX9_init 79 = .ok (.aload_n 0, 1) := by decide +kernel
theorem dX9_init_80 : decode cX9_init 80 = .ok (.sipush 400, 3) := by decide +kernel
theorem dX9_init_83 : decode cX9_init 83 = .ok (.newarray .int, 2) := by decide +kernel
theorem dX9_init_85 : decode cX9_init 85 = .ok (.putfield 40, 3) := by decide +kernel
theorem dX9_init_88 : decode cX9_init 88 = .ok (.aload_n 0, 1) := by decide +kernel
theorem dX9_init_89 : decode cX9_init 89 = .ok (.bipush 41, 2) := by decide +kernel
theorem dX9_init_91 : decode cX9_init 91 = .ok (.newarray .char, 2) := by decide +kernel
theorem dX9_init_93 : decode cX9_init 93 = .ok (.dup, 1) := by decide +kernel
theorem dX9_init_94 : decode cX9_init 94 = .ok (.iconst 0, 1) := by decide +kernel
theorem dX9_init_95 : decode cX9_init 95 = .ok (.bipush 101, 2) := by decide +kernel
theorem dX9_init_97 : decode cX9_init 97 = .ok (.castore, 1) := by decide +kernel
theorem dX9_init_98 : decode cX9_init 98 = .ok (.dup, 1) := by decide +kernel
theorem dX9_init_99 : decode cX9_init 99 = .ok (.iconst 1, 1) := by decide +kernel
theorem dX9_init_100 : decode cX9_init 100 = .ok (.bipush 110, 2) := by decide +kernel
theorem dX9_init_102 : decode cX9_init 102 = .ok (.castore, 1) := by decide +kernel
theorem dX9_init_103 : decode cX9_init 103 = .ok (.dup, 1) := by decide +kernel
theorem dX9_init_104 : decode cX9_init 104 = .ok (.iconst 2, 1) := by decide +kernel
theorem dX9_init_105 : decode cX9_init 105 = .ok (.bipush 100, 2) := by decide +kernel
theorem dX9_init_107 : decode cX9_init 107 = .ok (.castore, 1) := by decide +kernel
theorem dX9_init_108 : decode cX9_init 108 = .ok (.dup, 1) := by decide +kernel
theorem dX9_init_109 : decode cX9_init 109 = .ok (.iconst 3, 1) := by decide +kernel
theorem dX9_init_110 : decode cX9_init 110 = .ok (.bipush 115, 2) := by decide +kernel
theorem dX9_init_112 : decode cX9_init 112 = .ok (.castore, 1) := by decide +kernel
theorem dX9_init_113 : decode cX9_init 113 = .ok (.dup, 1) := by decide +kernel
theorem dX9_init_114 : decode cX9_init 114 = .ok (.iconst 4, 1) := by decide +kernel
theorem dX9_init_115 : decode cX9_init 115 = .ok (.bipush 32, 2) := by decide +kernel
theorem dX9_init_117 : decode cX9_init 117 = .ok (.castore, 1) := by decide +kernel
theorem dX9_init_118 : decode cX9_init 118 = .ok (.dup, 1) := by decide +kernel
theorem dX9_init_119 : decode cX9_init 119 = .ok (.iconst 5, 1) := by decide +kernel
theorem dX9_init_120 : decode cX9_init 120 = .ok (.bipush 112, 2) := by decide +kernel
theorem dX9_init_122 : decode cX9_init 122 = .ok (.castore, 1) := by decide +kernel
theorem dX9_init_123 : decode cX9_init 123 = .ok (.dup, 1) := by decide +kernel
theorem dX9_init_124 : decode cX9_init 124 = .ok (.bipush 6, 2) := by decide +kernel
theorem dX9_init_126 : decode cX9_init 126 = .ok (.bipush 117, 2) := by decide +kernel
theorem dX9_init_128 : decode cX9_init 128 = .ok (.castore, 1) := by decide +kernel
theorem dX9_init_129 : decode cX9_init 129 = .ok (.dup, 1) := by decide +kernel
theorem dX9_init_130 : decode cX9_init 130 = .ok (.bipush 7, 2) := by decide +kernel
theorem dX9_init_132 : decode cX9_init 132 = .ok (.bipush 114, 2) := by decide +kernel
theorem dX9_init_134 : decode cX9_init 134 = .ok (.castore, 1) := by decide +kernel
theorem dX9_init_135 : decode cX9_init 135 = .ok (.dup, 1) := by decide +kernel
theorem dX9_init_136 : decode cX9_init 136 = .ok (.bipush 8, 2) := by decide +kernel
theorem dX9_init_138 : decode cX9_init 138 = .ok (.bipush 101, 2) := by decide +kernel
theorem dX9_init_140 : decode cX9_init 140 = .ok (.castore, 1) := by decide +kernel
theorem dX9_init_141 : decode cX9_init 141 = .ok (.dup, 1) := by decide +kernel
theorem dX9_init_142 : decode cX9_init 142 = .ok (.bipush 9, 2) := by decide +kernel
theorem dX9_init_144 : decode cX9_init 144 = .ok (.bipush 32, 2) := by decide +kernel
theorem dX9_init_146 : decode cX9_init 146 = .ok (.castore, 1) := by decide +kernel
theorem dX9_init_147 : decode cX9_init 147 = .ok (.dup, 1) := by decide +kernel
theorem dX9_init_148 : decode cX9_init 148 = .ok (.bipush 10, 2) := by decide +kernel
theorem dX9_init_150 : decode cX9_init 150 = .ok (.bipush 109, 2) := by decide +kernel
theorem dX9_init_152 : decode cX9_init 152 = .ok (.castore, 1) := by decide +kernel
theorem dX9_init_153 : decode cX9_init 153 = .ok (.dup, 1) := by decide +kernel
theorem dX9_init_154 : decode cX9_init 154 = .ok (.bipush 11, 2) := by decide +kernel
theorem dX9_init_156 : decode cX9_init 156 = .ok (.bipush 105, 2) := by decide +kernel
theorem dX9_init_158 : decode cX9_init 158 = .ok (.castore, 1) := by decide +kernel
theorem dX9_init_159 : decode cX9_init 159 = .ok (.dup, 1) := by decide +kernel
theorem dX9_init_160 : decode cX9_init 160 = .ok (.bipush 12, 2) := by decide +kernel
theorem dX9_init_162 : decode cX9_init 162 = .ok (.bipush 120, 2) := by decide +kernel
theorem dX9_init_164 : decode cX9_init 164 = .ok (.castore, 1) := by decide +kernel
theorem dX9_init_165 : decode cX9_init 165 = .ok (.dup, 1) := by decide +kernel
theorem dX9_init_166 : decode cX9_init 166 = .ok (.bipush 13, 2) := by decide +kernel
theorem dX9_init_168 : decode cX9_init 168 = .ok (.bipush 101, 2) := by decide +kernel
theorem dX9_init_170 : decode cX9_init 170 = .ok (.castore, 1) := by decide +kernel
theorem dX9_init_171 : decode cX9_init 171 = .ok (.dup, 1) := by decide +kernel
theorem dX9_init_172 : decode cX9_init 172 = .ok (.bipush 14, 2) := by decide +kernel
theorem dX9_init_174 : decode cX9_init 174 = .ok (.bipush 100, 2) := by decide +kernel
theorem dX9_init_176 : decode cX9_init 176 = .ok (.castore, 1) := by decide +kernel
theorem dX9_init_177 : decode cX9_init 177 = .ok (.dup, 1) := by decide +kernel
theorem dX9_init_178 : decode cX9_init 178 = .ok (.bipush 15, 2) := by decide +kernel
theorem dX9_init_180 : decode cX9_init 180 = .ok (.bipush 32, 2) := by decide +kernel
theorem dX9_init_182 : decode cX9_init 182 = .ok (.castore, 1) := by decide +kernel
theorem dX9_init_183 : decode cX9_init 183 = .ok (.dup, 1) := by decide +kernel
theorem dX9_init_184 : decode cX9_init 184 = .ok (.bipush 16, 2) := by decide +kernel
theorem dX9_init_186 : decode cX9_init 186 = .ok (.bipush 102, 2) := by decide +kernel
theorem dX9_init_188 : decode cX9_init 188 = .ok (.castore, 1) := by decide +kernel
theorem dX9_init_189 : decode cX9_init 189 = .ok (.dup, 1) := by decide +kernel
theorem dX9_init_190 : decode cX9_init 190 = .ok (.bipush 17, 2) := by decide +kernel
theorem dX9_init_192 : decode cX9_init 192 = .ok (.bipush 117, 2) := by decide +kernel
theorem dX9_init_194 : decode cX9_init 194 = .ok (.castore, 1) := by decide +kernel
theorem dX9_init_195 : decode cX9_init 195 = .ok (.dup, 1) := by decide +kernel
theorem dX9_init_196 : decode cX9_init 196 = .ok (.bipush 18, 2) := by decide +kernel
theorem dX9_init_198 : decode cX9_init 198 = .ok (.bipush 108, 2) := by decide +kernel
theorem dX9_init_200 : decode cX9_init 200 = .ok (.castore, 1) := by decide +kernel
theorem dX9_init_201 : decode cX9_init 201 = .ok (.dup, 1) := by decide +kernel
theorem dX9_init_202 : decode cX9_init 202 = .ok (.bipush 19, 2) := by decide +kernel
theorem dX9_init_204 : decode cX9_init 204 = .ok (.bipush 108, 2) := by decide +kernel
theorem dX9_init_206 : decode cX9_init 206 = .ok (.castore, 1) := by decide +kernel
theorem dX9_init_207 : decode cX9_init 207 = .ok (.dup, 1) := by decide +kernel
theorem dX9_init_208 : decode cX9_init 208 = .ok (.bipush 20, 2) := by decide +kernel
theorem dX9_init_210 : decode cX9_init 210 = .ok (.bipush 32, 2) := by decide +kernel
theorem dX9_init_212 : decode cX9_init 212 = .ok (.castore, 1) := by decide +kernel
theorem dX9_init_213 : decode cX9_init 213 = .ok (.dup, 1) := by decide +kernel
theorem dX9_init_214 : decode cX9_init 214 = .ok (.bipush 21, 2) := by decide +kernel
theorem dX9_init_216 : decode cX9_init 216 = .ok (.bipush 101, 2) := by decide +kernel
theorem dX9_init_218 : decode cX9_init 218 = .ok (.castore, 1) := by decide +kernel
theorem dX9_init_219 : decode cX9_init 219 = .ok (.dup, 1) := by decide +kernel
theorem dX9_init_220 : decode cX9_init 220 = .ok (.bipush 22, 2) := by decide +kernel
theorem dX9_init_222 : decode cX9_init 222 = .ok (.bipush 118, 2) := by decide +kernel
theorem dX9_init_224 : decode cX9_init 224 = .ok (.castore, 1) := by decide +kernel
theorem dX9_init_225 : decode cX9_init 225 = .ok (.dup, 1) := by decide +kernel
theorem dX9_init_226 : decode cX9_init 226 = .ok (.bipush 23, 2) := by decide +kernel
theorem dX9_init_228 : decode cX9_init 228 = .ok (.bipush 101, 2) := by decide +kernel
theorem dX9_init_230 : decode cX9_init 230 = .ok (.castore, 1) := by decide +kernel
theorem dX9_init_231 : decode cX9_init 231 = .ok (.dup, 1) := by decide +kernel
theorem dX9_init_232 : decode cX9_init 232 = .ok (.bipush 24, 2) := by decide +kernel
theorem dX9_init_234 : decode cX9_init 234 = .ok (.bipush 110, 2) := by decide +kernel
theorem dX9_init_236 : decode cX9_init 236 = .ok (.castore, 1) := by decide +kernel
theorem dX9_init_237 : decode cX9_init 237 = .ok (.dup, 1) := by decide +kernel
theorem dX9_init_238 : decode cX9_init 238 = .ok (.bipush 25, 2) := by decide +kernel
theorem dX9_init_240 : decode cX9_init 240 = .ok (.bipush 32, 2) := by decide +kernel
theorem dX9_init_242 : decode cX9_init 242 = .ok (.castore, 1) := by decide +kernel
theorem dX9_init_243 : decode cX9_init 243 = .ok (.dup, 1) := by decide +kernel
theorem dX9_init_244 : decode cX9_init 244 = .ok (.bipush 26, 2) := by decide +kernel
theorem dX9_init_246 : decode cX9_init 246 = .ok (.bipush 111, 2) := by decide +kernel
theorem dX9_init_248 : decode cX9_init 248 = .ok (.castore, 1) := by decide +kernel
theorem dX9_init_249 : decode cX9_init 249 = .ok (.dup, 1) := by decide +kernel
theorem dX9_init_250 : decode cX9_init 250 = .ok (.bipush 27, 2) := by decide +kernel
theorem dX9_init_252 : decode cX9_init 252 = .ok (.bipush 100, 2) := by decide +kernel
theorem dX9_init_254 : decode cX9_init 254 = .ok (.castore, 1) := by decide +kernel
theorem dX9_init_255 : decode cX9_init 255 = .ok (.dup, 1) := by decide +kernel
theorem dX9_init_256 : decode cX9_init 256 = .ok (.bipush 28, 2) := by decide +kernel
theorem dX9_init_258 : decode cX9_init 258 = .ok (.bipush 100, 2) := by decide +kernel
theorem dX9_init_260 : decode cX9_init 260 = .ok (.castore, 1) := by decide +kernel
theorem dX9_init_261 : decode cX9_init 261 = .ok (.dup, 1) := by decide +kernel
theorem dX9_init_262 : decode cX9_init 262 = .ok (.bipush 29, 2) := by decide +kernel
theorem dX9_init_264 : decode cX9_init 264 = .ok (.bipush 32, 2) := by decide +kernel
theorem dX9_init_266 : decode cX9_init 266 = .ok (.castore, 1) := by decide +kernel
theorem dX9_init_267 : decode cX9_init 267 = .ok (.dup, 1) := by decide +kernel
theorem dX9_init_268 : decode cX9_init 268 = .ok (.bipush 30, 2) := by decide +kernel
theorem dX9_init_270 : decode cX9_init 270 = .ok (.bipush 104, 2) := by decide +kernel
theorem dX9_init_272 : decode cX9_init 272 = .ok (.castore, 1) := by decide +kernel
theorem dX9_init_273 : decode cX9_init 273 = .ok (.dup, 1) := by decide +kernel
theorem dX9_init_274 : decode cX9_init 274 = .ok (.bipush 31, 2) := by decide +kernel
theorem dX9_init_276 : decode cX9_init 276 = .ok (.bipush 97, 2) := by decide +kernel
theorem dX9_init_278 : decode cX9_init 278 = .ok (.castore, 1) := by decide +kernel
theorem dX9_init_279 : decode cX9_init 279 = .ok (.dup, 1) := by decide +kernel
theorem dX9_init_280 : decode cX9_init 280 = .ok (.bipush 32, 2) := by decide +kernel
theorem dX9_init_282 : decode cX9_init 282 = .ok (.bipush 108, 2) := by decide +kernel
theorem dX9_init_284 : decode cX9_init 284 = .ok (.castore, 1) := by decide +kernel
theorem dX9_init_285 : decode cX9_init 285 = .ok (.dup, 1) := by decide +kernel
theorem dX9_init_286 : decode cX9_init 286 = .ok (.bipush 33, 2) := by decide +kernel
theorem dX9_init_288 : decode cX9_init 288 = .ok (.bipush 102, 2) := by decide +kernel
theorem dX9_init_290 : decode cX9_init 290 = .ok (.castore, 1) := by decide +kernel
theorem dX9_init_291 : decode cX9_init 291 = .ok (.dup, 1) := by decide +kernel
theorem dX9_init_292 : decode cX9_init 292 = .ok (.bipush 34, 2) := by decide +kernel
theorem dX9_init_294 : decode cX9_init 294 = .ok (.bipush 32, 2) := by decide +kernel
theorem dX9_init_296 : decode cX9_init 296 = .ok (.castore, 1) := by decide +kernel
theorem dX9_init_297 : decode cX9_init 297 = .ok (.dup, 1) := by decide +kernel
theorem dX9_init_298 : decode cX9_init 298 = .ok (.bipush 35, 2) := by decide +kernel
theorem dX9_init_300 : decode cX9_init 300 = .ok (.bipush 112, 2) := by decide +kernel
theorem dX9_init_302 : decode cX9_init 302 = .ok (.castore, 1) := by decide +kernel
theorem dX9_init_303 : decode cX9_init 303 = .ok (.dup, 1) := by decide +kernel
theorem dX9_init_304 : decode cX9_init 304 = .ok (.bipush 36, 2) := by decide +kernel
theorem dX9_init_306 : decode cX9_init 306 = .ok (.bipush 114, 2) := by decide +kernel
theorem dX9_init_308 : decode cX9_init 308 = .ok (.castore, 1) := by decide +kernel
theorem dX9_init_309 : decode cX9_init 309 = .ok (.dup, 1) := by decide +kernel
theorem dX9_init_310 : decode cX9_init 310 = .ok (.bipush 37, 2) := by decide +kernel
theorem dX9_init_312 : decode cX9_init 312 = .ok (.bipush 105, 2) := by decide +kernel
theorem dX9_init_314 : decode cX9_init 314 = .ok (.castore, 1) := by decide +kernel
theorem dX9_init_315 : decode cX9_init 315 = .ok (.dup, 1) := by decide +kernel
theorem dX9_init_316 : decode cX9_init 316 = .ok (.bipush 38, 2) := by decide +kernel
theorem dX9_init_318 : decode cX9_init 318 = .ok (.bipush 109, 2) := by decide +kernel
theorem dX9_init_320 : decode cX9_init 320 = .ok (.castore, 1) := by decide +kernel
theorem dX9_init_321 : decode cX9_init 321 = .ok (.dup, 1) := by decide +kernel
theorem dX9_init_322 : decode cX9_init 322 = .ok (.bipush 39, 2) := by decide +kernel
theorem dX9_init_324 : decode cX9_init 324 = .ok (.bipush 101, 2) := by decide +kernel
theorem dX9_init_326 : decode cX9_init 326 = .ok (.castore, 1) := by decide +kernel
theorem dX9_init_327 : decode cX9_init 327 = .ok (.dup, 1) := by decide +kernel
theorem dX9_init_328 : decode cX9_init 328 = .ok (.bipush 40, 2) := by decide +kernel
theorem dX9_init_330 : decode cX9_init 330 = .ok (.bipush 32, 2) := by decide +kernel
theorem dX9_init_332 : decode cX9_init 332 = .ok (.castore, 1) := by decide +kernel
theorem dX9_init_333 : decode cX9_init 333 = .ok (.putfield 43, 3) := by decide +kernel
theorem dX9_init_336 : decode cX9_init 336 = .ok (.aload_n 0, 1) := by decide +kernel
theorem dX9_init_337 : decode cX9_init 337 = .ok (.bipush 21, 2) := by decide +kernel
theorem dX9_init_339 : decode cX9_init 339 = .ok (.newarray .char, 2) := by decide +kernel
theorem dX9_init_341 : decode cX9_init 341 = .ok (.dup, 1) := by decide +kernel
theorem dX9_init_342 : decode cX9_init 342 = .ok (.iconst 0, 1) := by decide +kernel
theorem dX9_init_343 : decode cX9_init 343 = .ok (.bipush 110, 2) := by decide +kernel
theorem dX9_init_345 : decode cX9_init 345 = .ok (.castore, 1) := by decide +kernel
theorem dX9_init_346 : decode cX9_init 346 = .ok (.dup, 1) := by decide +kernel
theorem dX9_init_347 : decode cX9_init 347 = .ok (.iconst 1, 1) := by decide +kernel
theorem dX9_init_348 : decode cX9_init 348 = .ok (.bipush 101, 2) := by decide +kernel
theorem dX9_init_350 : decode cX9_init 350 = .ok (.castore, 1) := by decide +kernel
theorem dX9_init_351 : decode cX9_init 351 = .ok (.dup, 1) := by decide +kernel
theorem dX9_init_352 : decode cX9_init 352 = .ok (.iconst 2, 1) := by decide +kernel
theorem dX9_init_353 : decode cX9_init 353 = .ok (.bipush 119, 2) := by decide +kernel
theorem dX9_init_355 : decode cX9_init 355 = .ok (.castore, 1) := by decide +kernel
theorem dX9_init_356 : decode cX9_init 356 = .ok (.dup, 1) := by decide +kernel
theorem dX9_init_357 : decode cX9_init 357 = .ok (.iconst 3, 1) := by decide +kernel
theorem dX9_init_358 : decode cX9_init 358 = .ok (.bipush 32, 2) := by decide +kernel
theorem dX9_init_360 : decode cX9_init 360 = .ok (.castore, 1) := by decide +kernel
theorem dX9_init_361 : decode cX9_init 361 = .ok (.dup, 1) := by decide +kernel
theorem dX9_init_362 : decode cX9_init 362 = .ok (.iconst 4, 1) := by decide +kernel
theorem dX9_init_363 : decode cX9_init 363 = .ok (.bipush 100, 2) := by decide +kernel
theorem dX9_init_365 : decode cX9_init 365 = .ok (.castore, 1) := by decide +kernel
theorem dX9_init_366 : decode cX9_init 366 = .ok (.dup, 1) := by decide +kernel
theorem dX9_init_367 : decode cX9_init 367 = .ok (.iconst 5, 1) := by decide +kernel
theorem dX9_init_368 : decode cX9_init 368 = .ok (.bipush 114, 2) := by decide +kernel
theorem dX9_init_370 : decode cX9_init 370 = .ok (.castore, 1) := by decide +kernel
theorem dX9_init_371 : decode cX9_init 371 = .ok (.dup, 1) := by decide +kernel
theorem dX9_init_372 : decode cX9_init 372 = .ok (.bipush 6, 2) := by decide +kernel
theorem dX9_init_374 : decode cX9_init 374 = .ok (.bipush 111, 2) := by decide +kernel
theorem dX9_init_376 : decode cX9_init 376 = .ok (.castore, 1) := by decide +kernel
theorem dX9_init_377 : decode cX9_init 377 = .ok (.dup, 1) := by decide +kernel
theorem dX9_init_378 : decode cX9_init 378 = .ok (.bipush 7, 2) := by decide +kernel
theorem dX9_init_380 : decode cX9_init 380 = .ok (.bipush 112, 2) := by decide +kernel
theorem dX9_init_382 : decode cX9_init 382 = .ok (.castore, 1) := by decide +kernel
theorem dX9_init_383 : decode cX9_init 383 = .ok (.dup, 1) := by decide +kernel
theorem dX9_init_384 : decode cX9_init 384 = .ok (.bipush 8, 2) := by decide +kernel
theorem dX9_init_386 : decode cX9_init 386 = .ok (.bipush 32, 2) := by decide +kernel
theorem dX9_init_388 : decode cX9_init 388 = .ok (.castore, 1) := by decide +kernel
theorem dX9_init_389 : decode cX9_init 389 = .ok (.dup, 1) := by decide +kernel
theorem dX9_init_390 : decode cX9_init 390 = .ok (.bipush 9, 2) := by decide +kernel
theorem dX9_init_392 : decode cX9_init 392 = .ok (.bipush 109, 2) := by decide +kernel
theorem dX9_init_394 : decode cX9_init 394 = .ok (.castore, 1) := by decide +kernel
theorem dX9_init_395 : decode cX9_init 395 = .ok (.dup, 1) := by decide +kernel
theorem dX9_init_396 : decode cX9_init 396 = .ok (.bipush 10, 2) := by decide +kernel
theorem dX9_init_398 : decode cX9_init 398 = .ok (.bipush 117, 2) := by decide +kernel
theorem dX9_init_400 : decode cX9_init 400 = .ok (.castore, 1) := by decide +kernel
theorem dX9_init_401 : decode cX9_init 401 = .ok (.dup, 1) := by decide +kernel
theorem dX9_init_402 : decode cX9_init 402 = .ok (.bipush 11, 2) := by decide +kernel
theorem dX9_init_404 : decode cX9_init 404 = .ok (.bipush 108, 2) := by decide +kernel
theorem dX9_init_406 : decode cX9_init 406 = .ok (.castore, 1) := by decide +kernel
theorem dX9_init_407 : decode cX9_init 407 = .ok (.dup, 1) := by decide +kernel
theorem dX9_init_408 : decode cX9_init 408 = .ok (.bipush 12, 2) := by decide +kernel
theorem dX9_init_410 : decode cX9_init 410 = .ok (.bipush 32, 2) := by decide +kernel
theorem dX9_init_412 : decode cX9_init 412 = .ok (.castore, 1) := by decide +kernel
theorem dX9_init_413 : decode cX9_init 413 = .ok (.dup, 1) := by decide +kernel
theorem dX9_init_414 : decode cX9_init 414 = .ok (.bipush 13, 2) := by decide +kernel
theorem dX9_init_416 : decode cX9_init 416 = .ok (.bipush 115, 2) := by decide +kernel
theorem dX9_init_418 : decode cX9_init 418 = .ok (.castore, 1) := by decide +kernel
theorem dX9_init_419 : decode cX9_init 419 = .ok (.dup, 1) := by decide +kernel
theorem dX9_init_420 : decode cX9_init 420 = .ok (.bipush 14, 2) := by decide +kernel
theorem dX9_init_422 : decode cX9_init 422 = .ok (.bipush 117, 2) := by decide +kernel
theorem dX9_init_424 : decode cX9_init 424 = .ok (.castore, 1) := by decide +kernel
theorem dX9_init_425 : decode cX9_init 425 = .ok (.dup, 1) := by decide +kernel
theorem dX9_init_426 : decode cX9_init 426 = .ok (.bipush 15, 2) := by decide +kernel
theorem dX9_init_428 : decode cX9_init 428 = .ok (.bipush 109, 2) := by decide +kernel
theorem dX9_init_430 : decode cX9_init 430 = .ok (.castore, 1) := by decide +kernel
theorem dX9_init_431 : decode cX9_init 431 = .ok (.dup, 1) := by decide +kernel
theorem dX9_init_432 : decode cX9_init 432 = .ok (.bipush 16, 2) := by decide +kernel
theorem dX9_init_434 : decode cX9_init 434 = .ok (.bipush 32, 2) := by decide +kernel
theorem dX9_init_436 : decode cX9_init 436 = .ok (.castore, 1) := by decide +kernel
theorem dX9_init_437 : decode cX9_init 437 = .ok (.dup, 1) := by decide +kernel
theorem dX9_init_438 : decode cX9_init 438 = .ok (.bipush 17, 2) := by decide +kernel
theorem dX9_init_440 : decode cX9_init 440 = .ok (.bipush 108, 2) := by decide +kernel
theorem dX9_init_442 : decode cX9_init 442 = .ok (.castore, 1) := by decide +kernel
theorem dX9_init_443 : decode cX9_init 443 = .ok (.dup, 1) := by decide +kernel
theorem dX9_init_444 : decode cX9_init 444 = .ok (.bipush 18, 2) := by decide +kernel
theorem dX9_init_446 : decode cX9_init 446 = .ok (.bipush 111, 2) := by decide +kernel
theorem dX9_init_448 : decode cX9_init 448 = .ok (.castore, 1) := by decide +kernel
theorem dX9_init_449 : decode cX9_init 449 = .ok (.dup, 1) := by decide +kernel
theorem dX9_init_450 : decode cX9_init 450 = .ok (.bipush 19, 2) := by decide +kernel
theorem dX9_init_452 : decode cX9_init 452 = .ok (.bipush 119, 2) := by decide +kernel
theorem dX9_init_454 : decode cX9_init 454 = .ok (.castore, 1) := by decide +kernel
theorem dX9_init_455 : decode cX9_init 455 = .ok (.dup, 1) := by decide +kernel
theorem dX9_init_456 : decode cX9_init 456 = .ok (.bipush 20, 2) := by decide +kernel
theorem dX9_init_458 : decode cX9_init 458 = .ok (.bipush 32, 2) := by decide +kernel
theorem dX9_init_460 : decode cX9_init 460 = .ok (.castore, 1) := by decide +kernel
theorem dX9_init_461 : decode cX9_init 461 = .ok (.putfield 47, 3) := by decide +kernel
theorem dX9_init_464 : decode cX9_init 464 = .ok (.aload_n 0, 1) := by decide +kernel
theorem dX9_init_465 : decode cX9_init 465 = .ok (.iconst 4, 1) := by decide +kernel
theorem dX9_init_466 : decode cX9_init 466 = .ok (.newarray .char, 2) := by decide +kernel
theorem dX9_init_468 : decode cX9_init 468 = .ok (.dup, 1) := by decide +kernel
theorem dX9_init_469 : decode cX9_init 469 = .ok (.iconst 0, 1) := by decide +kernel
theorem dX9_init_470 : decode cX9_init 470 = .ok (.bipush 110, 2) := by decide +kernel
theorem dX9_init_472 : decode cX9_init 472 = .ok (.castore, 1) := by decide +kernel
theorem dX9_init_473 : decode cX9_init 473 = .ok (.dup, 1) := by decide +kernel
theorem dX9_init_474 : decode cX9_init 474 = .ok (.iconst 1, 1) := by decide +kernel
theorem dX9_init_475 : decode cX9_init 475 = .ok (.bipush 111, 2) := by decide +kernel
theorem dX9_init_477 : decode cX9_init 477 = .ok (.castore, 1) := by decide +kernel
theorem dX9_init_478 : decode cX9_init 478 = .ok (.dup, 1) := by decide +kernel
theorem dX9_init_479 : decode cX9_init 479 = .ok (.iconst 2, 1) := by decide +kernel
theorem dX9_init_480 : decode cX9_init 480 = .ok (.bipush 116, 2) := by decide +kernel
theorem dX9_init_482 : decode cX9_init 482 = .ok (.castore, 1) := by decide +kernel
theorem dX9_init_483 : decode cX9_init 483 = .ok (.dup, 1) := by decide +kernel
theorem dX9_init_484 : decode cX9_init 484 = .ok (.iconst 3, 1) := by decide +kernel
theorem dX9_init_485 : decode cX9_init 485 = .ok (.bipush 32, 2) := by decide +kernel
theorem dX9_init_487 : decode cX9_init 487 = .ok (.castore, 1) := by decide +kernel
theorem dX9_init_488 : decode cX9_init 488 = .ok (.putfield 50, 3) := by decide +kernel
theorem dX9_init_491 : decode cX9_init 491 = .ok (.aload_n 0, 1) := by decide +kernel
theorem dX9_init_492 : decode cX9_init 492 = .ok (.bipush 80, 2) := by decide +kernel
theorem dX9_init_494 : decode cX9_init 494 = .ok (.newarray .int, 2) := by decide +kernel
theorem dX9_init_496 : decode cX9_init 496 = .ok (.putfield 53, 3) := by decide +kernel
theorem dX9_init_499 : decode cX9_init 499 = .ok (.aload_n 0, 1) := by decide +kernel
theorem dX9_init_500 : decode cX9_init 500 = .ok (.iconst 3, 1) := by decide +kernel
theorem dX9_init_501 : decode cX9_init 501 = .ok (.newarray .int, 2) := by decide +kernel
theorem dX9_init_503 : decode cX9_init 503 = .ok (.putfield 56, 3) := by decide +kernel
theorem dX9_init_506 : decode cX9_init 506 = .ok (.aload_n 0, 1) := by decide +kernel
theorem dX9_init_507 : decode cX9_init 507 = .ok (.bipush 6, 2) := by decide +kernel
theorem dX9_init_509 : decode cX9_init 509 = .ok (.newarray .int, 2) := by decide +kernel
theorem dX9_init_511 : decode cX9_init 511 = .ok (.putfield 59, 3) := by decide +kernel
theorem dX9_init_514 : decode cX9_init 514 = .ok (.aload_n 0, 1) := by decide +kernel
theorem dX9_init_515 : decode cX9_init 515 = .ok (.bipush 6, 2) := by decide +kernel
theorem dX9_init_517 : decode cX9_init 517 = .ok (.newarray .int, 2) := by decide +kernel
theorem dX9_init_519 : decode cX9_init 519 = .ok (.putfield 62, 3) := by decide +kernel
theorem dX9_init_522 : decode cX9_init 522 = .ok (.aload_n 0, 1) := by decide +kernel
theorem dX9_init_523 : decode cX9_init 523 = .ok (.bipush 6, 2) := by decide +kernel
theorem dX9_init_525 : decode cX9_init 525 = .ok (.newarray .int, 2) := by decide +kernel
theorem dX9_init_527 : decode cX9_init 527 = .ok (.putfield 65, 3) := by decide +kernel
theorem dX9_init_530 : decode cX9_init 530 = .ok (.aload_n 0, 1) := by decide +kernel
theorem dX9_init_531 : decode cX9_init 531 = .ok (.bipush 6, 2) := by decide +kernel
theorem dX9_init_533 : decode cX9_init 533 = .ok (.newarray .int, 2) := by decide +kernel
theorem dX9_init_535 : decode cX9_init 535 = .ok (.putfield 68, 3) := by decide +kernel
theorem dX9_init_538 : decode cX9_init 538 = .ok (.aload_n 0, 1) := by decide +kernel
theorem dX9_init_539 : decode cX9_init 539 = .ok (.bipush 6, 2) := by decide +kernel
theorem dX9_init_541 : decode cX9_init 541 = .ok (.newarray .int, 2) := by decide +kernel
theorem dX9_init_543 : decode cX9_init 543 = .ok (.putfield 71, 3) := by decide +kernel
theorem dX9_init_546 : decode cX9_init 546 = .ok (.aload_n 0, 1) := by decide +kernel
theorem dX9_init_547 : decode cX9_init 547 = .ok (.sipush 240, 3) := by decide +kernel
theorem dX9_init_550 : decode cX9_init 550 = .ok (.newarray .int, 2) := by decide +kernel
theorem dX9_init_552 : decode cX9_init 552 = .ok (.putfield 74, 3) := by decide +kernel
theorem dX9_init_555 : decode cX9_init 555 = .ok (.aload_n 0, 1) := by decide +kernel
theorem dX9_init_556 : decode cX9_init 556 = .ok (.bipush 8, 2) := by decide +kernel
theorem dX9_init_558 : decode cX9_init 558 = .ok (.newarray .int, 2) := by decide +kernel
theorem dX9_init_560 : decode cX9_init 560 = .ok (.putfield 77, 3) := by decide +kernel
theorem dX9_init_563 : decode cX9_init 563 = .ok (.aload_n 0, 1) := by decide +kernel
theorem dX9_init_564 : decode cX9_init 564 = .ok (.bipush 8, 2) := by decide +kernel
theorem dX9_init_566 : decode cX9_init 566 = .ok (.newarray .int, 2) := by decide +kernel
theorem dX9_init_568 : decode cX9_init 568 = .ok (.putfield 80, 3) := by decide +kernel
theorem dX9_init_571 : decode cX9_init 571 = .ok (.aload_n 0, 1) := by decide +kernel
theorem dX9_init_572 : decode cX9_init 572 = .ok (.bipush 8, 2) := by decide +kernel
theorem dX9_init_574 : decode cX9_init 574 = .ok (.newarray .int, 2) := by decide +kernel
theorem dX9_init_576 : decode cX9_init 576 = .ok (.putfield 83, 3) := by decide +kernel
theorem dX9_init_579 : decode cX9_init 579 = .ok (.aload_n 0, 1) := by decide +kernel
theorem dX9_init_580 : decode cX9_init 580 = .ok (.sipush 400, 3) := by decide +kernel
theorem dX9_init_583 : decode cX9_init 583 = .ok (.newarray .int, 2) := by decide +kernel
theorem dX9_init_585 : decode cX9_init 585 = .ok (.putfield 86, 3) := by decide +kernel
theorem dX9_init_588 : decode cX9_init 588 = .ok (.return_, 1) := by decide +kernel
theorem dX9_isIn_0 : decode cX9_isIn 0 = .ok (.lload_n 0, 1) := by decide +kernel
theorem dX9_isIn_1 : decode cX9_isIn 1 = .ok (.lload_n 2, 1) := by decide +kernel
theorem dX9_isIn_2 : decode cX9_isIn 2 = .ok (.lcmp, 1) := by decide +kernel
theorem dX9_isIn_3 : decode cX9_isIn 3 = .ok (.ifCond .lt 14, 3) := by decide +kernel
theorem dX9_isIn_6 : decode cX9_isIn 6 = .ok (.lload_n 0, 1) := by decide +kernel
theorem dX9_isIn_7 : decode cX9_isIn 7 = .ok (.lload 4, 2) := by decide +kernel
theorem dX9_isIn_9 : decode cX9_isIn 9 = .ok (.lcmp, 1) := by decide +kernel
theorem dX9_isIn_10 : decode cX9_isIn 10 = .ok (.ifCond .gt 7, 3) := by decide +kernel
theorem dX9_isIn_13 : decode cX9_isIn 13 = .ok (.iconst 1, 1) := by decide +kernel
theorem dX9_isIn_14 : decode cX9_isIn 14 = .ok (.goto 4, 3) := by decide +kernel
theorem dX9_isIn_17 : decode cX9_isIn 17 = .ok (.iconst 0, 1) := by decide +kernel
theorem dX9_isIn_18 : decode cX9_isIn 18 = .ok (.ireturn, 1) := by decide +kernel
theorem dX9_isFraction_0 : decode cX9_isFraction 0 = .ok (.iload_n 1, 1) := by decide +kernel
theorem dX9_isFraction_1 : decode cX9_isFraction 1 = .ok (.i2l, 1) := by decide +kernel
theorem dX9_isFraction_2 : decode cX9_isFraction 2 = .ok (.lconst 0, 1) := by decide +kernel
theorem dX9_isFraction_3 : decode cX9_isFraction 3 = .ok (.aload_n 0, 1) := by decide +kernel
theorem dX9_isFraction_4 : decode cX9_isFraction 4 = .ok (.getfield 89, 3) := by decide +kernel
theorem dX9_isFraction_7 : decode cX9_isFraction 7 = .ok (.iconst 1, 1) := by decide +kernel
theorem dX9_isFraction_8 : decode cX9_isFraction 8 = .ok (.isub, 1) := by decide +kernel
theorem dX9_isFraction_9 : decode cX9_isFraction 9 = .ok (.i2l, 1) := by decide +kernel
theorem dX9_isFraction_10 : decode cX9_isFraction 10 = .ok (.invokestatic 92, 3) := by decide +kernel
theorem dX9_isFraction_13 : decode cX9_isFraction 13 = .ok (.ireturn, 1) := by decide +kernel
theorem dX9_isBase_0 : decode cX9_isBase 0 = .ok (.iload_n 0, 1) := by decide +kernel
theorem dX9_isBase_1 : decode cX9_isBase 1 = .ok (.i2l, 1) := by decide +kernel
theorem dX9_isBase_2 : decode cX9_isBase 2 = .ok (.ldc2_w 96, 3) := by decide +kernel
theorem dX9_isBase_5 : decode cX9_isBase 5 = .ok (.ldc2_w 98, 3) := by decide +kernel
theorem dX9_isBase_8 : decode cX9_isBase 8 = .ok (.invokestatic 92, 3) := by decide +kernel
theorem dX9_isBase_11 : decode cX9_isBase 11 = .ok (.ireturn, 1) := by decide +kernel
theorem dX9_divisor_0 : decode cX9_divisor 0 = .ok (.lload_n 0, 1) := by decide +kernel
theorem dX9_divisor_1 : decode cX9_divisor 1 = .ok (.lstore 4, 2) := by decide +kernel
theorem dX9_divisor_3 : decode cX9_divisor 3 = .ok (.lload_n 2, 1) := by decide +kernel
theorem dX9_divisor_4 : decode cX9_divisor 4 = .ok (.lstore 6, 2) := by decide +kernel
theorem dX9_divisor_6 : decode cX9_divisor 6 = .ok (.lload 6, 2) := by decide +kernel
theorem dX9_divisor_8 : decode cX9_divisor 8 = .ok (.lconst 0, 1) := by decide +kernel
theorem dX9_divisor_9 : decode cX9_divisor 9 = .ok (.lcmp, 1) := by decide +kernel
theorem dX9_divisor_10 : decode cX9_divisor 10 = .ok (.ifCond .eq 21, 3) := by decide +kernel
theorem dX9_divisor_13 : decode cX9_divisor 13 = .ok (.lload 4, 2) := by decide +kernel
theorem dX9_divisor_15 : decode cX9_divisor 15 = .ok (.lload 6, 2) := by decide +kernel
theorem dX9_divisor_17 : decode cX9_divisor 17 = .ok (.lrem, 1) := by decide +kernel
theorem dX9_divisor_18 : decode cX9_divisor 18 = .ok (.lstore 8, 2) := by decide +kernel
theorem dX9_divisor_20 : decode cX9_divisor 20 = .ok (.lload 6, 2) := by decide +kernel
theorem dX9_divisor_22 : decode cX9_divisor 22 = .ok (.lstore 4, 2) := by decide +kernel
theorem dX9_divisor_24 : decode cX9_divisor 24 = .ok (.lload 8, 2) := by decide +kernel
theorem dX9_divisor_26 : decode cX9_divisor 26 = .ok (.lstore 6, 2) := by decide +kernel
theorem dX9_divisor_28 : decode cX9_divisor 28 = .ok (.goto (-22), 3) := by decide +kernel
theorem dX9_divisor_31 : decode cX9_divisor 31 = .ok (.lload 4, 2) := by decide +kernel
theorem dX9_divisor_33 : decode cX9_divisor 33 = .ok (.lreturn, 1) := by decide +kernel
theorem dX9_looks_0 : decode cX9_looks 0 = .ok (.iconst 0, 1) := by decide +kernel
theorem dX9_looks_1 : decode cX9_looks 1 = .ok (.istore 5, 2) := by decide +kernel
theorem dX9_looks_3 : decode cX9_looks 3 = .ok (.iload 5, 2) := by decide +kernel
theorem dX9_looks_5 : decode cX9_looks 5 = .ok (.iload_n 3, 1) := by decide +kernel
theorem dX9_looks_6 : decode cX9_looks 6 = .ok (.if_icmp .ge 17, 3) := by decide +kernel
theorem dX9_looks_9 : decode cX9_looks 9 = .ok (.aload_n 0, 1) := by decide +kernel
theorem dX9_looks_10 : decode cX9_looks 10 = .ok (.getfield 21, 3) := by decide +kernel
theorem dX9_looks_13 : decode cX9_looks 13 = .ok (.iload 5, 2) := by decide +kernel
theorem dX9_looks_15 : decode cX9_looks 15 = .ok (.iconst (-1), 1) := by decide +kernel
theorem dX9_looks_16 : decode cX9_looks 16 = .ok (.iastore, 1) := by decide +kernel
theorem dX9_looks_17 : decode cX9_looks 17 = .ok (.iinc 5 1, 3) := by decide +kernel
theorem dX9_looks_20 : decode cX9_looks 20 = .ok (.goto (-17), 3) := by decide +kernel
theorem dX9_looks_23 : decode cX9_looks 23 = .ok (.lload_n 1, 1) := by decide +kernel
theorem dX9_looks_24 : decode cX9_looks 24 = .ok (.iload_n 3, 1) := by decide +kernel
theorem dX9_looks_25 : decode cX9_looks 25 = .ok (.i2l, 1) := by decide +kernel
theorem dX9_looks_26 : decode cX9_looks 26 = .ok (.lrem, 1) := by decide +kernel
theorem dX9_looks_27 : decode cX9_looks 27 = .ok (.l2i, 1) := by decide +kernel
theorem dX9_looks_28 : decode cX9_looks 28 = .ok (.istore 5, 2) := by decide +kernel
theorem dX9_looks_30 : decode cX9_looks 30 = .ok (.iconst 0, 1) := by decide +kernel
theorem dX9_looks_31 : decode cX9_looks 31 = .ok (.istore 6, 2) := by decide +kernel
theorem dX9_looks_33 : decode cX9_looks 33 = .ok (.aload_n 0, 1) := by decide +kernel
theorem dX9_looks_34 : decode cX9_looks 34 = .ok (.getfield 21, 3) := by decide +kernel
theorem dX9_looks_37 : decode cX9_looks 37 = .ok (.iload 5, 2) := by decide +kernel
theorem dX9_looks_39 : decode cX9_looks 39 = .ok (.iaload, 1) := by decide +kernel
theorem dX9_looks_40 : decode cX9_looks 40 = .ok (.iconst (-1), 1) := by decide +kernel
theorem dX9_looks_41 : decode cX9_looks 41 = .ok (.if_icmp .ne 50, 3) := by decide +kernel
theorem dX9_looks_44 : decode cX9_looks 44 = .ok (.aload_n 0, 1) := by decide +kernel
theorem dX9_looks_45 : decode cX9_looks 45 = .ok (.getfield 21, 3) := by decide +kernel
theorem dX9_looks_48 : decode cX9_looks 48 = .ok (.iload 5, 2) := by decide +kernel
theorem dX9_looks_50 : decode cX9_looks 50 = .ok (.iload 6, 2) := by decide +kernel
theorem dX9_looks_52 : decode cX9_looks 52 = .ok (.iastore, 1) := by decide +kernel
theorem dX9_looks_53 : decode cX9_looks 53 = .ok (.aload_n 0, 1) := by decide +kernel
theorem dX9_looks_54 : decode cX9_looks 54 = .ok (.getfield 24, 3) := by decide +kernel
theorem dX9_looks_57 : decode cX9_looks 57 = .ok (.iload 6, 2) := by decide +kernel
theorem dX9_looks_59 : decode cX9_looks 59 = .ok (.iload 5, 2) := by decide +kernel
theorem dX9_looks_61 : decode cX9_looks 61 = .ok (.iastore, 1) := by decide +kernel
theorem dX9_looks_62 : decode cX9_looks 62 = .ok (.aload_n 0, 1) := by decide +kernel
theorem dX9_looks_63 : decode cX9_looks 63 = .ok (.getfield 27, 3) := by decide +kernel
theorem dX9_looks_66 : decode cX9_looks 66 = .ok (.iload 6, 2) := by decide +kernel
theorem dX9_looks_68 : decode cX9_looks 68 = .ok (.iload 5, 2) := by decide +kernel
theorem dX9_looks_70 : decode cX9_looks 70 = .ok (.iload 4, 2) := by decide +kernel
theorem dX9_looks_72 : decode cX9_looks 72 = .ok (.imul, 1) := by decide +kernel
theorem dX9_looks_73 : decode cX9_looks 73 = .ok (.iload_n 3, 1) := by decide +kernel
theorem dX9_looks_74 : decode cX9_looks 74 = .ok (.idiv, 1) := by decide +kernel
theorem dX9_looks_75 : decode cX9_looks 75 = .ok (.iastore, 1) := by decide +kernel
theorem dX9_looks_76 : decode cX9_looks 76 = .ok (.iload 5, 2) := by decide +kernel
theorem dX9_looks_78 : decode cX9_looks 78 = .ok (.iload 4, 2) := by decide +kernel
theorem dX9_looks_80 : decode cX9_looks 80 = .ok (.imul, 1) := by decide +kernel
theorem dX9_looks_81 : decode cX9_looks 81 = .ok (.iload_n 3, 1) := by decide +kernel
theorem dX9_looks_82 : decode cX9_looks 82 = .ok (.irem, 1) := by decide +kernel
theorem dX9_looks_83 : decode cX9_looks 83 = .ok (.istore 5, 2) := by decide +kernel
theorem dX9_looks_85 : decode cX9_looks 85 = .ok (.iinc 6 1, 3) := by decide +kernel
theorem dX9_looks_88 : decode cX9_looks 88 = .ok (.goto (-55), 3) := by decide +kernel
theorem dX9_looks_91 : decode cX9_looks 91 = .ok (.aload_n 0, 1) := by decide +kernel
theorem dX9_looks_92 : decode cX9_looks 92 = .ok (.aload_n 0, 1) := by decide +kernel
theorem dX9_looks_93 : decode cX9_looks 93 = .ok (.getfield 21, 3) := by decide +kernel
theorem dX9_looks_96 : decode cX9_looks 96 = .ok (.iload 5, 2) := by decide +kernel
theorem dX9_looks_98 : decode cX9_looks 98 = .ok (.iaload, 1) := by decide +kernel
theorem dX9_looks_99 : decode cX9_looks 99 = .ok (.putfield 100, 3) := by decide +kernel
theorem dX9_looks_102 : decode cX9_looks 102 = .ok (.aload_n 0, 1) := by decide +kernel
theorem dX9_looks_103 : decode cX9_looks 103 = .ok (.iload 6, 2) := by decide +kernel
theorem dX9_looks_105 : decode cX9_looks 105 = .ok (.aload_n 0, 1) := by decide +kernel
theorem dX9_looks_106 : decode cX9_looks 106 = .ok (.getfield 100, 3) := by decide +kernel
theorem dX9_looks_109 : decode cX9_looks 109 = .ok (.isub, 1) := by decide +kernel
theorem dX9_looks_110 : decode cX9_looks 110 = .ok (.putfield 103, 3) := by decide +kernel
theorem dX9_looks_113 : decode cX9_looks 113 = .ok (.aload_n 0, 1) := by decide +kernel
theorem dX9_looks_114 : decode cX9_looks 114 = .ok (.aload_n 0, 1) := by decide +kernel
theorem dX9_looks_115 : decode cX9_looks 115 = .ok (.getfield 24, 3) := by decide +kernel
theorem dX9_looks_118 : decode cX9_looks 118 = .ok (.aload_n 0, 1) := by decide +kernel
theorem dX9_looks_119 : decode cX9_looks 119 = .ok (.getfield 100, 3) := by decide +kernel
theorem dX9_looks_122 : decode cX9_looks 122 = .ok (.iaload, 1) := by decide +kernel
theorem dX9_looks_123 : decode cX9_looks 123 = .ok (.ifCond .ne 7, 3) := by decide +kernel
theorem dX9_looks_126 : decode cX9_looks 126 = .ok (.iconst 1, 1) := by decide +kernel
theorem dX9_looks_127 : decode cX9_looks 127 = .ok (.goto 4, 3) := by decide +kernel
theorem dX9_looks_130 : decode cX9_looks 130 = .ok (.iconst 0, 1) := by decide +kernel
theorem dX9_looks_131 : decode cX9_looks 131 = .ok (.putfield 106, 3) := by decide +kernel
theorem dX9_looks_134 : decode cX9_looks 134 = .ok (.return_, 1) := by decide +kernel
theorem dX9_looksAt_0 : decode cX9_looksAt 0 = .ok (.aload_n 0, 1) := by decide +kernel
theorem dX9_looksAt_1 : decode cX9_looksAt 1 = .ok (.aload_n 0, 1) := by decide +kernel
theorem dX9_looksAt_2 : decode cX9_looksAt 2 = .ok (.getfield 11, 3) := by decide +kernel
theorem dX9_looksAt_5 : decode cX9_looksAt 5 = .ok (.iload_n 1, 1) := by decide +kernel
theorem dX9_looksAt_6 : decode cX9_looksAt 6 = .ok (.iaload, 1) := by decide +kernel
theorem dX9_looksAt_7 : decode cX9_looksAt 7 = .ok (.i2l, 1) := by decide +kernel
theorem dX9_looksAt_8 : decode cX9_looksAt 8 = .ok (.aload_n 0, 1) := by decide +kernel
theorem dX9_looksAt_9 : decode cX9_looksAt 9 = .ok (.getfield 15, 3) := by decide +kernel
theorem dX9_looksAt_12 : decode cX9_looksAt 12 = .ok (.iload_n 1, 1) := by decide +kernel
theorem dX9_looksAt_13 : decode cX9_looksAt 13 = .ok (.iaload, 1) := by decide +kernel
theorem dX9_looksAt_14 : decode cX9_looksAt 14 = .ok (.aload_n 0, 1) := by decide +kernel
theorem dX9_looksAt_15 : decode cX9_looksAt 15 = .ok (.getfield 18, 3) := by decide +kernel
theorem dX9_looksAt_18 : decode cX9_looksAt 18 = .ok (.iload_n 1, 1) := by decide +kernel
theorem dX9_looksAt_19 : decode cX9_looksAt 19 = .ok (.iaload, 1) := by decide +kernel
theorem dX9_looksAt_20 : decode cX9_looksAt 20 = .ok (.invokevirtual 110, 3) := by decide +kernel
theorem dX9_looksAt_23 : decode cX9_looksAt 23 = .ok (.return_, 1) := by decide +kernel
theorem dX9_kindNow_0 : decode cX9_kindNow 0 = .ok (.aload_n 0, 1) := by decide +kernel
theorem dX9_kindNow_1 : decode cX9_kindNow 1 = .ok (.getfield 106, 3) := by decide +kernel
theorem dX9_kindNow_4 : decode cX9_kindNow 4 = .ok (.ifCond .eq 7, 3) := by decide +kernel
theorem dX9_kindNow_7 : decode cX9_kindNow 7 = .ok (.iconst 0, 1) := by decide +kernel
theorem dX9_kindNow_8 : decode cX9_kindNow 8 = .ok (.goto 15, 3) := by decide +kernel
theorem dX9_kindNow_11 : decode cX9_kindNow 11 = .ok (.aload_n 0, 1) := by decide +kernel
theorem dX9_kindNow_12 : decode cX9_kindNow 12 = .ok (.getfield 100, 3) := by decide +kernel
theorem dX9_kindNow_15 : decode cX9_kindNow 15 = .ok (.ifCond .ne 7, 3) := by decide +kernel
theorem dX9_kindNow_18 : decode cX9_kindNow 18 = .ok (.iconst 1, 1) := by decide +kernel
theorem dX9_kindNow_19 : decode cX9_kindNow 19 = .ok (.goto 4, 3) := by decide +kernel
theorem dX9_kindNow_22 : decode cX9_kindNow 22 = .ok (.iconst 2, 1) := by decide +kernel
theorem dX9_kindNow_23 : decode cX9_kindNow 23 = .ok (.ireturn, 1) := by decide +kernel
theorem dX9_placeOf_0 : decode cX9_placeOf 0 = .ok (.iload_n 1, 1) := by decide +kernel
theorem dX9_placeOf_1 : decode cX9_placeOf 1 = .ok (.aload_n 0, 1) := by decide +kernel
theorem dX9_placeOf_2 : decode cX9_placeOf 2 = .ok (.getfield 100, 3) := by decide +kernel
theorem dX9_placeOf_5 : decode cX9_placeOf 5 = .ok (.if_icmp .ge 7, 3) := by decide +kernel
theorem dX9_placeOf_8 : decode cX9_placeOf 8 = .ok (.iload_n 1, 1) := by decide +kernel
theorem dX9_placeOf_9 : decode cX9_placeOf 9 = .ok (.goto 19, 3) := by decide +kernel
theorem dX9_placeOf_12 : decode cX9_placeOf 12 = .ok (.aload_n 0, 1) := by decide +kernel
theorem dX9_placeOf_13 : decode cX9_placeOf 13 = .ok (.getfield 100, 3) := by decide +kernel
theorem dX9_placeOf_16 : decode cX9_placeOf 16 = .ok (.iload_n 1, 1) := by decide +kernel
theorem dX9_placeOf_17 : decode cX9_placeOf 17 = .ok (.aload_n 0, 1) := by decide +kernel
theorem dX9_placeOf_18 : decode cX9_placeOf 18 = .ok (.getfield 100, 3) := by decide +kernel
theorem dX9_placeOf_21 : decode cX9_placeOf 21 = .ok (.isub, 1) := by decide +kernel
theorem dX9_placeOf_22 : decode cX9_placeOf 22 = .ok (.aload_n 0, 1) := by decide +kernel
theorem dX9_placeOf_23 : decode cX9_placeOf 23 = .ok (.getfield 103, 3) := by decide +kernel
theorem dX9_placeOf_26 : decode cX9_placeOf 26 = .ok (.irem, 1) := by decide +kernel
theorem dX9_placeOf_27 : decode cX9_placeOf 27 = .ok (.iadd, 1) := by decide +kernel
theorem dX9_placeOf_28 : decode cX9_placeOf 28 = .ok (.ireturn, 1) := by decide +kernel
theorem dX9_comes_0 : decode cX9_comes 0 = .ok (.aload_n 0, 1) := by decide +kernel
theorem dX9_comes_1 : decode cX9_comes 1 = .ok (.getfield 11, 3) := by decide +kernel
theorem dX9_comes_4 : decode cX9_comes 4 = .ok (.aload_n 0, 1) := by decide +kernel
theorem dX9_comes_5 : decode cX9_comes 5 = .ok (.getfield 89, 3) := by decide +kernel
theorem dX9_comes_8 : decode cX9_comes 8 = .ok (.iload_n 1, 1) := by decide +kernel
theorem dX9_comes_9 : decode cX9_comes 9 = .ok (.iastore, 1) := by decide +kernel
theorem dX9_comes_10 : decode cX9_comes 10 = .ok (.aload_n 0, 1) := by decide +kernel
theorem dX9_comes_11 : decode cX9_comes 11 = .ok (.getfield 15, 3) := by decide +kernel
theorem dX9_comes_14 : decode cX9_comes 14 = .ok (.aload_n 0, 1) := by decide +kernel
theorem dX9_comes_15 : decode cX9_comes 15 = .ok (.getfield 89, 3) := by decide +kernel
theorem dX9_comes_18 : decode cX9_comes 18 = .ok (.iload_n 2, 1) := by decide +kernel
theorem dX9_comes_19 : decode cX9_comes 19 = .ok (.iastore, 1) := by decide +kernel
theorem dX9_comes_20 : decode cX9_comes 20 = .ok (.aload_n 0, 1) := by decide +kernel
theorem dX9_comes_21 : decode cX9_comes 21 = .ok (.getfield 18, 3) := by decide +kernel
theorem dX9_comes_24 : decode cX9_comes 24 = .ok (.aload_n 0, 1) := by decide +kernel
theorem dX9_comes_25 : decode cX9_comes 25 = .ok (.getfield 89, 3) := by decide +kernel
theorem dX9_comes_28 : decode cX9_comes 28 = .ok (.iload_n 3, 1) := by decide +kernel
theorem dX9_comes_29 : decode cX9_comes 29 = .ok (.iastore, 1) := by decide +kernel
theorem dX9_comes_30 : decode cX9_comes 30 = .ok (.aload_n 0, 1) := by decide +kernel
theorem dX9_comes_31 : decode cX9_comes 31 = .ok (.dup, 1) := by decide +kernel
theorem dX9_comes_32 : decode cX9_comes 32 = .ok (.getfield 89, 3) := by decide +kernel
theorem dX9_comes_35 : decode cX9_comes 35 = .ok (.iconst 1, 1) := by decide +kernel
theorem dX9_comes_36 : decode cX9_comes 36 = .ok (.iadd, 1) := by decide +kernel
theorem dX9_comes_37 : decode cX9_comes 37 = .ok (.putfield 89, 3) := by decide +kernel
theorem dX9_comes_40 : decode cX9_comes 40 = .ok (.aload_n 0, 1) := by decide +kernel
theorem dX9_comes_41 : decode cX9_comes 41 = .ok (.getfield 89, 3) := by decide +kernel
theorem dX9_comes_44 : decode cX9_comes 44 = .ok (.iconst 1, 1) := by decide +kernel
theorem dX9_comes_45 : decode cX9_comes 45 = .ok (.isub, 1) := by decide +kernel
theorem dX9_comes_46 : decode cX9_comes 46 = .ok (.ireturn, 1) := by decide +kernel
theorem dX9_fraction_0 : decode cX9_fraction 0 = .ok (.iload_n 1, 1) := by decide +kernel
theorem dX9_fraction_1 : decode cX9_fraction 1 = .ok (.i2l, 1) := by decide +kernel
theorem dX9_fraction_2 : decode cX9_fraction 2 = .ok (.lconst 0, 1) := by decide +kernel
theorem dX9_fraction_3 : decode cX9_fraction 3 = .ok (.ldc2_w 114, 3) := by decide +kernel
theorem dX9_fraction_6 : decode cX9_fraction 6 = .ok (.invokestatic 92, 3) := by decide +kernel
theorem dX9_fraction_9 : decode cX9_fraction 9 = .ok (.ifCond .eq 22, 3) := by decide +kernel
theorem dX9_fraction_12 : decode cX9_fraction 12 = .ok (.iload_n 2, 1) := by decide +kernel
theorem dX9_fraction_13 : decode cX9_fraction 13 = .ok (.i2l, 1) := by decide +kernel
theorem dX9_fraction_14 : decode cX9_fraction 14 = .ok (.lconst 1, 1) := by decide +kernel
theorem dX9_fraction_15 : decode cX9_fraction 15 = .ok (.ldc2_w 116, 3) := by decide +kernel
theorem dX9_fraction_18 : decode cX9_fraction 18 = .ok (.invokestatic 92, 3) := by decide +kernel
theorem dX9_fraction_21 : decode cX9_fraction 21 = .ok (.ifCond .eq 10, 3) := by decide +kernel
theorem dX9_fraction_24 : decode cX9_fraction 24 = .ok (.iload_n 3, 1) := by decide +kernel
theorem dX9_fraction_25 : decode cX9_fraction 25 = .ok (.invokestatic 118, 3) := by decide +kernel
theorem dX9_fraction_28 : decode cX9_fraction 28 = .ok (.ifCond .ne 5, 3) := by decide +kernel
theorem dX9_fraction_31 : decode cX9_fraction 31 = .ok (.iconst (-1), 1) := by decide +kernel
theorem dX9_fraction_32 : decode cX9_fraction 32 = .ok (.ireturn, 1) := by decide +kernel
theorem dX9_fraction_33 : decode cX9_fraction 33 = .ok (.aload_n 0, 1) := by decide +kernel
theorem dX9_fraction_34 : decode cX9_fraction 34 = .ok (.getfield 89, 3) := by decide +kernel
theorem dX9_fraction_37 : decode cX9_fraction 37 = .ok (.bipush 8, 2) := by decide +kernel
theorem dX9_fraction_39 : decode cX9_fraction 39 = .ok (.if_icmp .ne 8, 3) := by decide +kernel
theorem dX9_fraction_42 : decode cX9_fraction 42 = .ok (.bipush (-3), 2) := by decide +kernel
theorem dX9_fraction_44 : decode cX9_fraction 44 = .ok (.goto 10, 3) := by decide +kernel
theorem dX9_fraction_47 : decode cX9_fraction 47 = .ok (.aload_n 0, 1) := by decide +kernel
theorem dX9_fraction_48 : decode cX9_fraction 48 = .ok (.iload_n 1, 1) := by decide +kernel
theorem dX9_fraction_49 : decode cX9_fraction 49 = .ok (.iload_n 2, 1) := by decide +kernel
theorem dX9_fraction_50 : decode cX9_fraction 50 = .ok (.iload_n 3, 1) := by decide +kernel
theorem dX9_fraction_51 : decode cX9_fraction 51 = .ok (.invokevirtual 122, 3) := by decide +kernel
theorem dX9_fraction_54 : decode cX9_fraction 54 = .ok (.ireturn, 1) := by decide +kernel
theorem dX9_drop_0 : decode cX9_drop 0 = .ok (.aload_n 0, 1) := by decide +kernel
theorem dX9_drop_1 : decode cX9_drop 1 = .ok (.iload_n 1, 1) := by decide +kernel
theorem dX9_drop_2 : decode cX9_drop 2 = .ok (.invokevirtual 126, 3) := by decide +kernel
theorem dX9_drop_5 : decode cX9_drop 5 = .ok (.ifCond .ne 5, 3) := by decide +kernel
theorem dX9_drop_8 : decode cX9_drop 8 = .ok (.iconst (-1), 1) := by decide +kernel
theorem dX9_drop_9 : decode cX9_drop 9 = .ok (.ireturn, 1) := by decide +kernel
theorem dX9_drop_10 : decode cX9_drop 10 = .ok (.iload_n 1, 1) := by decide +kernel
theorem dX9_drop_11 : decode cX9_drop 11 = .ok (.istore_n 2, 1) := by decide +kernel
theorem dX9_drop_12 : decode cX9_drop 12 = .ok (.iload_n 2, 1) := by decide +kernel
theorem dX9_drop_13 : decode cX9_drop 13 = .ok (.aload_n 0, 1) := by decide +kernel
theorem dX9_drop_14 : decode cX9_drop 14 = .ok (.getfield 89, 3) := by decide +kernel
theorem dX9_drop_17 : decode cX9_drop 17 = .ok (.iconst 1, 1) := by decide +kernel
theorem dX9_drop_18 : decode cX9_drop 18 = .ok (.isub, 1) := by decide +kernel
theorem dX9_drop_19 : decode cX9_drop 19 = .ok (.if_icmp .ge 51, 3) := by decide +kernel
theorem dX9_drop_22 : decode cX9_drop 22 = .ok (.aload_n 0, 1) := by decide +kernel
theorem dX9_drop_23 : decode cX9_drop 23 = .ok (.getfield 11, 3) := by decide +kernel
theorem dX9_drop_26 : decode cX9_drop 26 = .ok (.iload_n 2, 1) := by decide +kernel
theorem dX9_drop_27 : decode cX9_drop 27 = .ok (.aload_n 0, 1) := by decide +kernel
theorem dX9_drop_28 : decode cX9_drop 28 = .ok (.getfield 11, 3) := by decide +kernel
theorem dX9_drop_31 : decode cX9_drop 31 = .ok (.iload_n 2, 1) := by decide +kernel
theorem dX9_drop_32 : decode cX9_drop 32 = .ok (.iconst 1, 1) := by decide +kernel
theorem dX9_drop_33 : decode cX9_drop 33 = .ok (.iadd, 1) := by decide +kernel
theorem dX9_drop_34 : decode cX9_drop 34 = .ok (.iaload, 1) := by decide +kernel
theorem dX9_drop_35 : decode cX9_drop 35 = .ok (.iastore, 1) := by decide +kernel
theorem dX9_drop_36 : decode cX9_drop 36 = .ok (.aload_n 0, 1) := by decide +kernel
theorem dX9_drop_37 : decode cX9_drop 37 = .ok (.getfield 15, 3) := by decide +kernel
theorem dX9_drop_40 : decode cX9_drop 40 = .ok (.iload_n 2, 1) := by decide +kernel
theorem dX9_drop_41 : decode cX9_drop 41 = .ok (.aload_n 0, 1) := by decide +kernel
theorem dX9_drop_42 : decode cX9_drop 42 = .ok (.getfield 15, 3) := by decide +kernel
theorem dX9_drop_45 : decode cX9_drop 45 = .ok (.iload_n 2, 1) := by decide +kernel
theorem dX9_drop_46 : decode cX9_drop 46 = .ok (.iconst 1, 1) := by decide +kernel
theorem dX9_drop_47 : decode cX9_drop 47 = .ok (.iadd, 1) := by decide +kernel
theorem dX9_drop_48 : decode cX9_drop 48 = .ok (.iaload, 1) := by decide +kernel
theorem dX9_drop_49 : decode cX9_drop 49 = .ok (.iastore, 1) := by decide +kernel
theorem dX9_drop_50 : decode cX9_drop 50 = .ok (.aload_n 0, 1) := by decide +kernel
theorem dX9_drop_51 : decode cX9_drop 51 = .ok (.getfield 18, 3) := by decide +kernel
theorem dX9_drop_54 : decode cX9_drop 54 = .ok (.iload_n 2, 1) := by decide +kernel
theorem dX9_drop_55 : decode cX9_drop 55 = .ok (.aload_n 0, 1) := by decide +kernel
theorem dX9_drop_56 : decode cX9_drop 56 = .ok (.getfield 18, 3) := by decide +kernel
theorem dX9_drop_59 : decode cX9_drop 59 = .ok (.iload_n 2, 1) := by decide +kernel
theorem dX9_drop_60 : decode cX9_drop 60 = .ok (.iconst 1, 1) := by decide +kernel
theorem dX9_drop_61 : decode cX9_drop 61 = .ok (.iadd, 1) := by decide +kernel
theorem dX9_drop_62 : decode cX9_drop 62 = .ok (.iaload, 1) := by decide +kernel
theorem dX9_drop_63 : decode cX9_drop 63 = .ok (.iastore, 1) := by decide +kernel
theorem dX9_drop_64 : decode cX9_drop 64 = .ok (.iinc 2 1, 3) := by decide +kernel
theorem dX9_drop_67 : decode cX9_drop 67 = .ok (.goto (-55), 3) := by decide +kernel
theorem dX9_drop_70 : decode cX9_drop 70 = .ok (.aload_n 0, 1) := by decide +kernel
theorem dX9_drop_71 : decode cX9_drop 71 = .ok (.dup, 1) := by decide +kernel
theorem dX9_drop_72 : decode cX9_drop 72 = .ok (.getfield 89, 3) := by decide +kernel
theorem dX9_drop_75 : decode cX9_drop 75 = .ok (.iconst 1, 1) := by decide +kernel
theorem dX9_drop_76 : decode cX9_drop 76 = .ok (.isub, 1) := by decide +kernel
theorem dX9_drop_77 : decode cX9_drop 77 = .ok (.putfield 89, 3) := by decide +kernel
theorem dX9_drop_80 : decode cX9_drop 80 = .ok (.aload_n 0, 1) := by decide +kernel
theorem dX9_drop_81 : decode cX9_drop 81 = .ok (.getfield 89, 3) := by decide +kernel
theorem dX9_drop_84 : decode cX9_drop 84 = .ok (.ireturn, 1) := by decide +kernel
theorem dX9_multiply_0 : decode cX9_multiply 0 = .ok (.aload_n 0, 1) := by decide +kernel
theorem dX9_multiply_1 : decode cX9_multiply 1 = .ok (.iload_n 1, 1) := by decide +kernel
theorem dX9_multiply_2 : decode cX9_multiply 2 = .ok (.invokevirtual 126, 3) := by decide +kernel
theorem dX9_multiply_5 : decode cX9_multiply 5 = .ok (.ifCond .eq 15, 3) := by decide +kernel
theorem dX9_multiply_8 : decode cX9_multiply 8 = .ok (.iload_n 2, 1) := by decide +kernel
theorem dX9_multiply_9 : decode cX9_multiply 9 = .ok (.i2l, 1) := by decide +kernel
theorem dX9_multiply_10 : decode cX9_multiply 10 = .ok (.lconst 0, 1) := by decide +kernel
theorem dX9_multiply_11 : decode cX9_multiply 11 = .ok (.ldc2_w 116, 3) := by decide +kernel
theorem dX9_multiply_14 : decode cX9_multiply 14 = .ok (.invokestatic 92, 3) := by decide +kernel
theorem dX9_multiply_17 : decode cX9_multiply 17 = .ok (.ifCond .ne 5, 3) := by decide +kernel
theorem dX9_multiply_20 : decode cX9_multiply 20 = .ok (.iconst (-1), 1) := by decide +kernel
theorem dX9_multiply_21 : decode cX9_multiply 21 = .ok (.ireturn, 1) := by decide +kernel
theorem dX9_multiply_22 : decode cX9_multiply 22 = .ok (.aload_n 0, 1) := by decide +kernel
theorem dX9_multiply_23 : decode cX9_multiply 23 = .ok (.getfield 11, 3) := by decide +kernel
theorem dX9_multiply_26 : decode cX9_multiply 26 = .ok (.iload_n 1, 1) := by decide +kernel
theorem dX9_multiply_27 : decode cX9_multiply 27 = .ok (.iaload, 1) := by decide +kernel
theorem dX9_multiply_28 : decode cX9_multiply 28 = .ok (.i2l, 1) := by decide +kernel
theorem dX9_multiply_29 : decode cX9_multiply 29 = .ok (.iload_n 2, 1) := by decide +kernel
theorem dX9_multiply_30 : decode cX9_multiply 30 = .ok (.i2l, 1) := by decide +kernel
theorem dX9_multiply_31 : decode cX9_multiply 31 = .ok (.lmul, 1) := by decide +kernel
theorem dX9_multiply_32 : decode cX9_multiply 32 = .ok (.ldc2_w 114, 3) := by decide +kernel
theorem dX9_multiply_35 : decode cX9_multiply 35 = .ok (.lcmp, 1) := by decide +kernel
theorem dX9_multiply_36 : decode cX9_multiply 36 = .ok (.ifCond .le 6, 3) := by decide +kernel
theorem dX9_multiply_39 : decode cX9_multiply 39 = .ok (.bipush (-6), 2) := by decide +kernel
theorem dX9_multiply_41 : decode cX9_multiply 41 = .ok (.ireturn, 1) := by decide +kernel
theorem dX9_multiply_42 : decode cX9_multiply 42 = .ok (.aload_n 0, 1) := by decide +kernel
theorem dX9_multiply_43 : decode cX9_multiply 43 = .ok (.getfield 11, 3) := by decide +kernel
theorem dX9_multiply_46 : decode cX9_multiply 46 = .ok (.iload_n 1, 1) := by decide +kernel
theorem dX9_multiply_47 : decode cX9_multiply 47 = .ok (.dup2, 1) := by decide +kernel
theorem dX9_multiply_48 : decode cX9_multiply 48 = .ok (.iaload, 1) := by decide +kernel
theorem dX9_multiply_49 : decode cX9_multiply 49 = .ok (.iload_n 2, 1) := by decide +kernel
theorem dX9_multiply_50 : decode cX9_multiply 50 = .ok (.imul, 1) := by decide +kernel
theorem dX9_multiply_51 : decode cX9_multiply 51 = .ok (.iastore, 1) := by decide +kernel
theorem dX9_multiply_52 : decode cX9_multiply 52 = .ok (.aload_n 0, 1) := by decide +kernel
theorem dX9_multiply_53 : decode cX9_multiply 53 = .ok (.getfield 11, 3) := by decide +kernel
theorem dX9_multiply_56 : decode cX9_multiply 56 = .ok (.iload_n 1, 1) := by decide +kernel
theorem dX9_multiply_57 : decode cX9_multiply 57 = .ok (.iaload, 1) := by decide +kernel
theorem dX9_multiply_58 : decode cX9_multiply 58 = .ok (.ireturn, 1) := by decide +kernel
theorem dX9_comesLowest_0 : decode cX9_comesLowest 0 = .ok (.lload_n 1, 1) := by decide +kernel
theorem dX9_comesLowest_1 : decode cX9_comesLowest 1 = .ok (.lload_n 3, 1) := by decide +kernel
theorem dX9_comesLowest_2 : decode cX9_comesLowest 2 = .ok (.invokestatic 129, 3) := by decide +kernel
theorem dX9_comesLowest_5 : decode cX9_comesLowest 5 = .ok (.lstore 6, 2) := by decide +kernel
theorem dX9_comesLowest_7 : decode cX9_comesLowest 7 = .ok (.lload_n 1, 1) := by decide +kernel
theorem dX9_comesLowest_8 : decode cX9_comesLowest 8 = .ok (.lload 6, 2) := by decide +kernel
theorem dX9_comesLowest_10 : decode cX9_comesLowest 10 = .ok (.ldiv, 1) := by decide +kernel
theorem dX9_comesLowest_11 : decode cX9_comesLowest 11 = .ok (.ldc2_w 114, 3) := by decide +kernel
theorem dX9_comesLowest_14 : decode cX9_comesLowest 14 = .ok (.lcmp, 1) := by decide +kernel
theorem dX9_comesLowest_15 : decode cX9_comesLowest 15 = .ok (.ifCond .gt 14, 3) := by decide +kernel
theorem dX9_comesLowest_18 : decode cX9_comesLowest 18 = .ok (.lload_n 3, 1) := by decide +kernel
theorem dX9_comesLowest_19 : decode cX9_comesLowest 19 = .ok (.lload 6, 2) := by decide +kernel
theorem dX9_comesLowest_21 : decode cX9_comesLowest 21 = .ok (.ldiv, 1) := by decide +kernel
theorem dX9_comesLowest_22 : decode cX9_comesLowest 22 = .ok (.ldc2_w 116, 3) := by decide +kernel
theorem dX9_comesLowest_25 : decode cX9_comesLowest 25 = .ok (.lcmp, 1) := by decide +kernel
theorem dX9_comesLowest_26 : decode cX9_comesLowest 26 = .ok (.ifCond .le 6, 3) := by decide +kernel
theorem dX9_comesLowest_29 : decode cX9_comesLowest 29 = .ok (.bipush (-6), 2) := by decide +kernel
theorem dX9_comesLowest_31 : decode cX9_comesLowest 31 = .ok (.ireturn, 1) := by decide +kernel
theorem dX9_comesLowest_32 : decode cX9_comesLowest 32 = .ok (.aload_n 0, 1) := by decide +kernel
theorem dX9_comesLowest_33 : decode cX9_comesLowest 33 = .ok (.getfield 89, 3) := by decide +kernel
theorem dX9_comesLowest_36 : decode cX9_comesLowest 36 = .ok (.bipush 8, 2) := by decide +kernel
theorem dX9_comesLowest_38 : decode cX9_comesLowest 38 = .ok (.if_icmp .ne 8, 3) := by decide +kernel
theorem dX9_comesLowest_41 : decode cX9_comesLowest 41 = .ok (.bipush (-3), 2) := by decide +kernel
theorem dX9_comesLowest_43 : decode cX9_comesLowest 43 = .ok (.goto 19, 3) := by decide +kernel
theorem dX9_comesLowest_46 : decode cX9_comesLowest 46 = .ok (.aload_n 0, 1) := by decide +kernel
theorem dX9_comesLowest_47 : decode cX9_comesLowest 47 = .ok (.lload_n 1, 1) := by decide +kernel
theorem dX9_comesLowest_48 : decode cX9_comesLowest 48 = .ok (.lload 6, 2) := by decide +kernel
theorem dX9_comesLowest_50 : decode cX9_comesLowest 50 = .ok (.ldiv, 1) := by decide +kernel
theorem dX9_comesLowest_51 : decode cX9_comesLowest 51 = .ok (.l2i, 1) := by decide +kernel
theorem dX9_comesLowest_52 : decode cX9_comesLowest 52 = .ok (.lload_n 3, 1) := by decide +kernel
theorem dX9_comesLowest_53 : decode cX9_comesLowest 53 = .ok (.lload 6, 2) := by decide +kernel
theorem dX9_comesLowest_55 : decode cX9_comesLowest 55 = .ok (.ldiv, 1) := by decide +kernel
theorem dX9_comesLowest_56 : decode cX9_comesLowest 56 = .ok (.l2i, 1) := by decide +kernel
theorem dX9_comesLowest_57 : decode cX9_comesLowest 57 = .ok (.iload 5, 2) := by decide +kernel
theorem dX9_comesLowest_59 : decode cX9_comesLowest 59 = .ok (.invokevirtual 122, 3) := by decide +kernel
theorem dX9_comesLowest_62 : decode cX9_comesLowest 62 = .ok (.ireturn, 1) := by decide +kernel
theorem dX9_sum_0 : decode cX9_sum 0 = .ok (.aload_n 0, 1) := by decide +kernel
theorem dX9_sum_1 : decode cX9_sum 1 = .ok (.iload_n 1, 1) := by decide +kernel
theorem dX9_sum_2 : decode cX9_sum 2 = .ok (.invokevirtual 126, 3) := by decide +kernel
theorem dX9_sum_5 : decode cX9_sum 5 = .ok (.ifCond .eq 11, 3) := by decide +kernel
theorem dX9_sum_8 : decode cX9_sum 8 = .ok (.aload_n 0, 1) := by decide +kernel
theorem dX9_sum_9 : decode cX9_sum 9 = .ok (.iload_n 2, 1) := by decide +kernel
theorem dX9_sum_10 : decode cX9_sum 10 = .ok (.invokevirtual 126, 3) := by decide +kernel
theorem dX9_sum_13 : decode cX9_sum 13 = .ok (.ifCond .ne 5, 3) := by decide +kernel
theorem dX9_sum_16 : decode cX9_sum 16 = .ok (.iconst (-1), 1) := by decide +kernel
theorem dX9_sum_17 : decode cX9_sum 17 = .ok (.ireturn, 1) := by decide +kernel
theorem dX9_sum_18 : decode cX9_sum 18 = .ok (.aload_n 0, 1) := by decide +kernel
theorem dX9_sum_19 : decode cX9_sum 19 = .ok (.getfield 18, 3) := by decide +kernel
theorem dX9_sum_22 : decode cX9_sum 22 = .ok (.iload_n 1, 1) := by decide +kernel
theorem dX9_sum_23 : decode cX9_sum 23 = .ok (.iaload, 1) := by decide +kernel
theorem dX9_sum_24 : decode cX9_sum 24 = .ok (.aload_n 0, 1) := by decide +kernel
theorem dX9_sum_25 : decode cX9_sum 25 = .ok (.getfield 18, 3) := by decide +kernel
theorem dX9_sum_28 : decode cX9_sum 28 = .ok (.iload_n 2, 1) := by decide +kernel
theorem dX9_sum_29 : decode cX9_sum 29 = .ok (.iaload, 1) := by decide +kernel
theorem dX9_sum_30 : decode cX9_sum 30 = .ok (.if_icmp .eq 6, 3) := by decide +kernel
theorem dX9_sum_33 : decode cX9_sum 33 = .ok (.bipush (-5), 2) := by decide +kernel
theorem dX9_sum_35 : decode cX9_sum 35 = .ok (.ireturn, 1) := by decide +kernel
theorem dX9_sum_36 : decode cX9_sum 36 = .ok (.aload_n 0, 1) := by decide +kernel
theorem dX9_sum_37 : decode cX9_sum 37 = .ok (.getfield 11, 3) := by decide +kernel
theorem dX9_sum_40 : decode cX9_sum 40 = .ok (.iload_n 1, 1) := by decide +kernel
theorem dX9_sum_41 : decode cX9_sum 41 = .ok (.iaload, 1) := by decide +kernel
theorem dX9_sum_42 : decode cX9_sum 42 = .ok (.i2l, 1) := by decide +kernel
theorem dX9_sum_43 : decode cX9_sum 43 = .ok (.aload_n 0, 1) := by decide +kernel
theorem dX9_sum_44 : decode cX9_sum 44 = .ok (.getfield 15, 3) := by decide +kernel
theorem dX9_sum_47 : decode cX9_sum 47 = .ok (.iload_n 2, 1) := by decide +kernel
theorem dX9_sum_48 : decode cX9_sum 48 = .ok (.iaload, 1) := by decide +kernel
theorem dX9_sum_49 : decode cX9_sum 49 = .ok (.i2l, 1) := by decide +kernel
theorem dX9_sum_50 : decode cX9_sum 50 = .ok (.lmul, 1) := by decide +kernel
theorem dX9_sum_51 : decode cX9_sum 51 = .ok (.aload_n 0, 1) := by decide +kernel
theorem dX9_sum_52 : decode cX9_sum 52 = .ok (.getfield 11, 3) := by decide +kernel
theorem dX9_sum_55 : decode cX9_sum 55 = .ok (.iload_n 2, 1) := by decide +kernel
theorem dX9_sum_56 : decode cX9_sum 56 = .ok (.iaload, 1) := by decide +kernel
theorem dX9_sum_57 : decode cX9_sum 57 = .ok (.i2l, 1) := by decide +kernel
theorem dX9_sum_58 : decode cX9_sum 58 = .ok (.aload_n 0, 1) := by decide +kernel
theorem dX9_sum_59 : decode cX9_sum 59 = .ok (.getfield 15, 3) := by decide +kernel
theorem dX9_sum_62 : decode cX9_sum 62 = .ok (.iload_n 1, 1) := by decide +kernel
theorem dX9_sum_63 : decode cX9_sum 63 = .ok (.iaload, 1) := by decide +kernel
theorem dX9_sum_64 : decode cX9_sum 64 = .ok (.i2l, 1) := by decide +kernel
theorem dX9_sum_65 : decode cX9_sum 65 = .ok (.lmul, 1) := by decide +kernel
theorem dX9_sum_66 : decode cX9_sum 66 = .ok (.ladd, 1) := by decide +kernel
theorem dX9_sum_67 : decode cX9_sum 67 = .ok (.lstore_n 3, 1) := by decide +kernel
theorem dX9_sum_68 : decode cX9_sum 68 = .ok (.aload_n 0, 1) := by decide +kernel
theorem dX9_sum_69 : decode cX9_sum 69 = .ok (.lload_n 3, 1) := by decide +kernel
theorem dX9_sum_70 : decode cX9_sum 70 = .ok (.aload_n 0, 1) := by decide +kernel
theorem dX9_sum_71 : decode cX9_sum 71 = .ok (.getfield 15, 3) := by decide +kernel
theorem dX9_sum_74 : decode cX9_sum 74 = .ok (.iload_n 1, 1) := by decide +kernel
theorem dX9_sum_75 : decode cX9_sum 75 = .ok (.iaload, 1) := by decide +kernel
theorem dX9_sum_76 : decode cX9_sum 76 = .ok (.i2l, 1) := by decide +kernel
theorem dX9_sum_77 : decode cX9_sum 77 = .ok (.aload_n 0, 1) := by decide +kernel
theorem dX9_sum_78 : decode cX9_sum 78 = .ok (.getfield 15, 3) := by decide +kernel
theorem dX9_sum_81 : decode cX9_sum 81 = .ok (.iload_n 2, 1) := by decide +kernel
theorem dX9_sum_82 : decode cX9_sum 82 = .ok (.iaload, 1) := by decide +kernel
theorem dX9_sum_83 : decode cX9_sum 83 = .ok (.i2l, 1) := by decide +kernel
theorem dX9_sum_84 : decode cX9_sum 84 = .ok (.lmul, 1) := by decide +kernel
theorem dX9_sum_85 : decode cX9_sum 85 = .ok (.aload_n 0, 1) := by decide +kernel
theorem dX9_sum_86 : decode cX9_sum 86 = .ok (.getfield 18, 3) := by decide +kernel
theorem dX9_sum_89 : decode cX9_sum 89 = .ok (.iload_n 1, 1) := by decide +kernel
theorem dX9_sum_90 : decode cX9_sum 90 = .ok (.iaload, 1) := by decide +kernel
theorem dX9_sum_91 : decode cX9_sum 91 = .ok (.invokevirtual 133, 3) := by decide +kernel
theorem dX9_sum_94 : decode cX9_sum 94 = .ok (.ireturn, 1) := by decide +kernel
theorem dX9_lowest_0 : decode cX9_lowest 0 = .ok (.aload_n 0, 1) := by decide +kernel
theorem dX9_lowest_1 : decode cX9_lowest 1 = .ok (.iload_n 1, 1) := by decide +kernel
theorem dX9_lowest_2 : decode cX9_lowest 2 = .ok (.invokevirtual 126, 3) := by decide +kernel
theorem dX9_lowest_5 : decode cX9_lowest 5 = .ok (.ifCond .ne 5, 3) := by decide +kernel
theorem dX9_lowest_8 : decode cX9_lowest 8 = .ok (.iconst (-1), 1) := by decide +kernel
theorem dX9_lowest_9 : decode cX9_lowest 9 = .ok (.ireturn, 1) := by decide +kernel
theorem dX9_lowest_10 : decode cX9_lowest 10 = .ok (.aload_n 0, 1) := by decide +kernel
theorem dX9_lowest_11 : decode cX9_lowest 11 = .ok (.getfield 11, 3) := by decide +kernel
theorem dX9_lowest_14 : decode cX9_lowest 14 = .ok (.iload_n 1, 1) := by decide +kernel
theorem dX9_lowest_15 : decode cX9_lowest 15 = .ok (.iaload, 1) := by decide +kernel
theorem dX9_lowest_16 : decode cX9_lowest 16 = .ok (.i2l, 1) := by decide +kernel
theorem dX9_lowest_17 : decode cX9_lowest 17 = .ok (.aload_n 0, 1) := by decide +kernel
theorem dX9_lowest_18 : decode cX9_lowest 18 = .ok (.getfield 15, 3) := by decide +kernel
theorem dX9_lowest_21 : decode cX9_lowest 21 = .ok (.iload_n 1, 1) := by decide +kernel
theorem dX9_lowest_22 : decode cX9_lowest 22 = .ok (.iaload, 1) := by decide +kernel
theorem dX9_lowest_23 : decode cX9_lowest 23 = .ok (.i2l, 1) := by decide +kernel
theorem dX9_lowest_24 : decode cX9_lowest 24 = .ok (.invokestatic 129, 3) := by decide +kernel
theorem dX9_lowest_27 : decode cX9_lowest 27 = .ok (.l2i, 1) := by decide +kernel
theorem dX9_lowest_28 : decode cX9_lowest 28 = .ok (.istore_n 2, 1) := by decide +kernel
theorem dX9_lowest_29 : decode cX9_lowest 29 = .ok (.aload_n 0, 1) := by decide +kernel
theorem dX9_lowest_30 : decode cX9_lowest 30 = .ok (.getfield 11, 3) := by decide +kernel
theorem dX9_lowest_33 : decode cX9_lowest 33 = .ok (.iload_n 1, 1) := by decide +kernel
