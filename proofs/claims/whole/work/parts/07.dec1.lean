theorem dX8_clear_0 : decode cX8_clear 0 = .ok (.aload_n 0, 1) := by decide +kernel
theorem dX8_clear_1 : decode cX8_clear 1 = .ok (.iconst 0, 1) := by decide +kernel
theorem dX8_clear_2 : decode cX8_clear 2 = .ok (.putfield 19, 3) := by decide +kernel
theorem dX8_clear_5 : decode cX8_clear 5 = .ok (.aload_n 0, 1) := by decide +kernel
theorem dX8_clear_6 : decode cX8_clear 6 = .ok (.iconst 0, 1) := by decide +kernel
theorem dX8_clear_7 : decode cX8_clear 7 = .ok (.putfield 23, 3) := by decide +kernel
theorem dX8_clear_10 : decode cX8_clear 10 = .ok (.return_, 1) := by decide +kernel
theorem dX8_push_0 : decode cX8_push 0 = .ok (.aload_n 0, 1) := by decide +kernel
theorem dX8_push_1 : decode cX8_push 1 = .ok (.getfield 19, 3) := by decide +kernel
theorem dX8_push_4 : decode cX8_push 4 = .ok (.aload_n 0, 1) := by decide +kernel
theorem dX8_push_5 : decode cX8_push 5 = .ok (.getfield 13, 3) := by decide +kernel
theorem dX8_push_8 : decode cX8_push 8 = .ok (.arraylength, 1) := by decide +kernel
theorem dX8_push_9 : decode cX8_push 9 = .ok (.if_icmp .ge 27, 3) := by decide +kernel
theorem dX8_push_12 : decode cX8_push 12 = .ok (.aload_n 0, 1) := by decide +kernel
theorem dX8_push_13 : decode cX8_push 13 = .ok (.getfield 13, 3) := by decide +kernel
theorem dX8_push_16 : decode cX8_push 16 = .ok (.aload_n 0, 1) := by decide +kernel
theorem dX8_push_17 : decode cX8_push 17 = .ok (.getfield 19, 3) := by decide +kernel
theorem dX8_push_20 : decode cX8_push 20 = .ok (.iload_n 1, 1) := by decide +kernel
theorem dX8_push_21 : decode cX8_push 21 = .ok (.i2b, 1) := by decide +kernel
theorem dX8_push_22 : decode cX8_push 22 = .ok (.bastore, 1) := by decide +kernel
theorem dX8_push_23 : decode cX8_push 23 = .ok (.aload_n 0, 1) := by decide +kernel
theorem dX8_push_24 : decode cX8_push 24 = .ok (.dup, 1) := by decide +kernel
theorem dX8_push_25 : decode cX8_push 25 = .ok (.getfield 19, 3) := by decide +kernel
theorem dX8_push_28 : decode cX8_push 28 = .ok (.iconst 1, 1) := by decide +kernel
theorem dX8_push_29 : decode cX8_push 29 = .ok (.iadd, 1) := by decide +kernel
theorem dX8_push_30 : decode cX8_push 30 = .ok (.putfield 19, 3) := by decide +kernel
theorem dX8_push_33 : decode cX8_push 33 = .ok (.goto 8, 3) := by decide +kernel
theorem dX8_push_36 : decode cX8_push 36 = .ok (.aload_n 0, 1) := by decide +kernel
theorem dX8_push_37 : decode cX8_push 37 = .ok (.iconst 1, 1) := by decide +kernel
theorem dX8_push_38 : decode cX8_push 38 = .ok (.putfield 23, 3) := by decide +kernel
theorem dX8_push_41 : decode cX8_push 41 = .ok (.return_, 1) := by decide +kernel
theorem dX10_cell_0 : decode cX10_cell 0 = .ok (.iload_n 1, 1) := by decide +kernel
theorem dX10_cell_1 : decode cX10_cell 1 = .ok (.iconst 3, 1) := by decide +kernel
theorem dX10_cell_2 : decode cX10_cell 2 = .ok (.irem, 1) := by decide +kernel
theorem dX10_cell_3 : decode cX10_cell 3 = .ok (.iconst 2, 1) := by decide +kernel
theorem dX10_cell_4 : decode cX10_cell 4 = .ok (.imul, 1) := by decide +kernel
theorem dX10_cell_5 : decode cX10_cell 5 = .ok (.iload_n 1, 1) := by decide +kernel
theorem dX10_cell_6 : decode cX10_cell 6 = .ok (.iconst 3, 1) := by decide +kernel
theorem dX10_cell_7 : decode cX10_cell 7 = .ok (.idiv, 1) := by decide +kernel
theorem dX10_cell_8 : decode cX10_cell 8 = .ok (.iadd, 1) := by decide +kernel
theorem dX10_cell_9 : decode cX10_cell 9 = .ok (.sipush 256, 3) := by decide +kernel
theorem dX10_cell_12 : decode cX10_cell 12 = .ok (.imul, 1) := by decide +kernel
theorem dX10_cell_13 : decode cX10_cell 13 = .ok (.iload_n 0, 1) := by decide +kernel
theorem dX10_cell_14 : decode cX10_cell 14 = .ok (.iadd, 1) := by decide +kernel
theorem dX10_cell_15 : decode cX10_cell 15 = .ok (.ireturn, 1) := by decide +kernel
theorem dX8_put_0 : decode cX8_put 0 = .ok (.iload_n 1, 1) := by decide +kernel
theorem dX8_put_1 : decode cX8_put 1 = .ok (.ifCond .lt 19, 3) := by decide +kernel
theorem dX8_put_4 : decode cX8_put 4 = .ok (.iload_n 1, 1) := by decide +kernel
theorem dX8_put_5 : decode cX8_put 5 = .ok (.aload_n 0, 1) := by decide +kernel
theorem dX8_put_6 : decode cX8_put 6 = .ok (.getfield 19, 3) := by decide +kernel
theorem dX8_put_9 : decode cX8_put 9 = .ok (.if_icmp .ge 11, 3) := by decide +kernel
theorem dX8_put_12 : decode cX8_put 12 = .ok (.aload_n 0, 1) := by decide +kernel
theorem dX8_put_13 : decode cX8_put 13 = .ok (.getfield 13, 3) := by decide +kernel
theorem dX8_put_16 : decode cX8_put 16 = .ok (.iload_n 1, 1) := by decide +kernel
theorem dX8_put_17 : decode cX8_put 17 = .ok (.iload_n 2, 1) := by decide +kernel
theorem dX8_put_18 : decode cX8_put 18 = .ok (.i2b, 1) := by decide +kernel
theorem dX8_put_19 : decode cX8_put 19 = .ok (.bastore, 1) := by decide +kernel
theorem dX8_put_20 : decode cX8_put 20 = .ok (.return_, 1) := by decide +kernel
theorem dX10_put_0 : decode cX10_put 0 = .ok (.aload_n 0, 1) := by decide +kernel
theorem dX10_put_1 : decode cX10_put 1 = .ok (.getfield 14, 3) := by decide +kernel
theorem dX10_put_4 : decode cX10_put 4 = .ok (.iload_n 1, 1) := by decide +kernel
theorem dX10_put_5 : decode cX10_put 5 = .ok (.iload_n 2, 1) := by decide +kernel
theorem dX10_put_6 : decode cX10_put 6 = .ok (.invokestatic 20, 3) := by decide +kernel
theorem dX10_put_9 : decode cX10_put 9 = .ok (.iload_n 3, 1) := by decide +kernel
theorem dX10_put_10 : decode cX10_put 10 = .ok (.invokevirtual 28, 3) := by decide +kernel
theorem dX10_put_13 : decode cX10_put 13 = .ok (.return_, 1) := by decide +kernel
theorem dX10_lay_0 : decode cX10_lay 0 = .ok (.aload_n 0, 1) := by decide +kernel
theorem dX10_lay_1 : decode cX10_lay 1 = .ok (.iload_n 1, 1) := by decide +kernel
theorem dX10_lay_2 : decode cX10_lay 2 = .ok (.iload_n 2, 1) := by decide +kernel
theorem dX10_lay_3 : decode cX10_lay 3 = .ok (.iconst 0, 1) := by decide +kernel
theorem dX10_lay_4 : decode cX10_lay 4 = .ok (.iadd, 1) := by decide +kernel
theorem dX10_lay_5 : decode cX10_lay 5 = .ok (.iload_n 3, 1) := by decide +kernel
theorem dX10_lay_6 : decode cX10_lay 6 = .ok (.invokevirtual 56, 3) := by decide +kernel
theorem dX10_lay_9 : decode cX10_lay 9 = .ok (.aload_n 0, 1) := by decide +kernel
theorem dX10_lay_10 : decode cX10_lay 10 = .ok (.iload_n 1, 1) := by decide +kernel
theorem dX10_lay_11 : decode cX10_lay 11 = .ok (.iload_n 2, 1) := by decide +kernel
theorem dX10_lay_12 : decode cX10_lay 12 = .ok (.iconst 1, 1) := by decide +kernel
theorem dX10_lay_13 : decode cX10_lay 13 = .ok (.iadd, 1) := by decide +kernel
theorem dX10_lay_14 : decode cX10_lay 14 = .ok (.iload 4, 2) := by decide +kernel
theorem dX10_lay_16 : decode cX10_lay 16 = .ok (.invokevirtual 56, 3) := by decide +kernel
theorem dX10_lay_19 : decode cX10_lay 19 = .ok (.aload_n 0, 1) := by decide +kernel
theorem dX10_lay_20 : decode cX10_lay 20 = .ok (.iload_n 1, 1) := by decide +kernel
theorem dX10_lay_21 : decode cX10_lay 21 = .ok (.iload_n 2, 1) := by decide +kernel
theorem dX10_lay_22 : decode cX10_lay 22 = .ok (.iconst 2, 1) := by decide +kernel
theorem dX10_lay_23 : decode cX10_lay 23 = .ok (.iadd, 1) := by decide +kernel
theorem dX10_lay_24 : decode cX10_lay 24 = .ok (.iload 5, 2) := by decide +kernel
theorem dX10_lay_26 : decode cX10_lay 26 = .ok (.invokevirtual 56, 3) := by decide +kernel
theorem dX10_lay_29 : decode cX10_lay 29 = .ok (.return_, 1) := by decide +kernel
theorem dX10_laySingles_0 : decode cX10_laySingles 0 = .ok (.aload_n 0, 1) := by decide +kernel
theorem dX10_laySingles_1 : decode cX10_laySingles 1 = .ok (.iconst 0, 1) := by decide +kernel
theorem dX10_laySingles_2 : decode cX10_laySingles 2 = .ok (.iconst 0, 1) := by decide +kernel
theorem dX10_laySingles_3 : decode cX10_laySingles 3 = .ok (.iconst 2, 1) := by decide +kernel
theorem dX10_laySingles_4 : decode cX10_laySingles 4 = .ok (.iconst 0, 1) := by decide +kernel
theorem dX10_laySingles_5 : decode cX10_laySingles 5 = .ok (.iconst 0, 1) := by decide +kernel
theorem dX10_laySingles_6 : decode cX10_laySingles 6 = .ok (.invokevirtual 59, 3) := by decide +kernel
theorem dX10_laySingles_9 : decode cX10_laySingles 9 = .ok (.iconst 1, 1) := by decide +kernel
theorem dX10_laySingles_10 : decode cX10_laySingles 10 = .ok (.istore_n 1, 1) := by decide +kernel
theorem dX10_laySingles_11 : decode cX10_laySingles 11 = .ok (.iconst 0, 1) := by decide +kernel
theorem dX10_laySingles_12 : decode cX10_laySingles 12 = .ok (.istore_n 2, 1) := by decide +kernel
theorem dX10_laySingles_13 : decode cX10_laySingles 13 = .ok (.iload_n 2, 1) := by decide +kernel
theorem dX10_laySingles_14 : decode cX10_laySingles 14 = .ok (.bipush 17, 2) := by decide +kernel
theorem dX10_laySingles_16 : decode cX10_laySingles 16 = .ok (.if_icmp .gt 21, 3) := by decide +kernel
theorem dX10_laySingles_19 : decode cX10_laySingles 19 = .ok (.aload_n 0, 1) := by decide +kernel
theorem dX10_laySingles_20 : decode cX10_laySingles 20 = .ok (.iload_n 1, 1) := by decide +kernel
theorem dX10_laySingles_21 : decode cX10_laySingles 21 = .ok (.iconst 0, 1) := by decide +kernel
theorem dX10_laySingles_22 : decode cX10_laySingles 22 = .ok (.iconst 1, 1) := by decide +kernel
theorem dX10_laySingles_23 : decode cX10_laySingles 23 = .ok (.iload_n 2, 1) := by decide +kernel
theorem dX10_laySingles_24 : decode cX10_laySingles 24 = .ok (.iconst 0, 1) := by decide +kernel
theorem dX10_laySingles_25 : decode cX10_laySingles 25 = .ok (.invokevirtual 59, 3) := by decide +kernel
theorem dX10_laySingles_28 : decode cX10_laySingles 28 = .ok (.iinc 1 1, 3) := by decide +kernel
theorem dX10_laySingles_31 : decode cX10_laySingles 31 = .ok (.iinc 2 1, 3) := by decide +kernel
theorem dX10_laySingles_34 : decode cX10_laySingles 34 = .ok (.goto (-21), 3) := by decide +kernel
theorem dX10_laySingles_37 : decode cX10_laySingles 37 = .ok (.iconst 0, 1) := by decide +kernel
theorem dX10_laySingles_38 : decode cX10_laySingles 38 = .ok (.istore_n 2, 1) := by decide +kernel
theorem dX10_laySingles_39 : decode cX10_laySingles 39 = .ok (.iload_n 2, 1) := by decide +kernel
theorem dX10_laySingles_40 : decode cX10_laySingles 40 = .ok (.bipush 8, 2) := by decide +kernel
theorem dX10_laySingles_42 : decode cX10_laySingles 42 = .ok (.if_icmp .gt 47, 3) := by decide +kernel
theorem dX10_laySingles_45 : decode cX10_laySingles 45 = .ok (.aload_n 0, 1) := by decide +kernel
theorem dX10_laySingles_46 : decode cX10_laySingles 46 = .ok (.iload_n 1, 1) := by decide +kernel
theorem dX10_laySingles_47 : decode cX10_laySingles 47 = .ok (.iconst 0, 1) := by decide +kernel
theorem dX10_laySingles_48 : decode cX10_laySingles 48 = .ok (.iconst 3, 1) := by decide +kernel
theorem dX10_laySingles_49 : decode cX10_laySingles 49 = .ok (.iconst 0, 1) := by decide +kernel
theorem dX10_laySingles_50 : decode cX10_laySingles 50 = .ok (.iload_n 2, 1) := by decide +kernel
theorem dX10_laySingles_51 : decode cX10_laySingles 51 = .ok (.invokevirtual 59, 3) := by decide +kernel
theorem dX10_laySingles_54 : decode cX10_laySingles 54 = .ok (.iinc 1 1, 3) := by decide +kernel
theorem dX10_laySingles_57 : decode cX10_laySingles 57 = .ok (.iconst 4, 1) := by decide +kernel
theorem dX10_laySingles_58 : decode cX10_laySingles 58 = .ok (.istore_n 3, 1) := by decide +kernel
theorem dX10_laySingles_59 : decode cX10_laySingles 59 = .ok (.iload_n 3, 1) := by decide +kernel
theorem dX10_laySingles_60 : decode cX10_laySingles 60 = .ok (.bipush 18, 2) := by decide +kernel
theorem dX10_laySingles_62 : decode cX10_laySingles 62 = .ok (.if_icmp .gt 21, 3) := by decide +kernel
theorem dX10_laySingles_65 : decode cX10_laySingles 65 = .ok (.aload_n 0, 1) := by decide +kernel
theorem dX10_laySingles_66 : decode cX10_laySingles 66 = .ok (.iload_n 1, 1) := by decide +kernel
theorem dX10_laySingles_67 : decode cX10_laySingles 67 = .ok (.iconst 0, 1) := by decide +kernel
theorem dX10_laySingles_68 : decode cX10_laySingles 68 = .ok (.iconst 3, 1) := by decide +kernel
theorem dX10_laySingles_69 : decode cX10_laySingles 69 = .ok (.iload_n 3, 1) := by decide +kernel
theorem dX10_laySingles_70 : decode cX10_laySingles 70 = .ok (.iload_n 2, 1) := by decide +kernel
theorem dX10_laySingles_71 : decode cX10_laySingles 71 = .ok (.invokevirtual 59, 3) := by decide +kernel
theorem dX10_laySingles_74 : decode cX10_laySingles 74 = .ok (.iinc 1 1, 3) := by decide +kernel
theorem dX10_laySingles_77 : decode cX10_laySingles 77 = .ok (.iinc 3 1, 3) := by decide +kernel
theorem dX10_laySingles_80 : decode cX10_laySingles 80 = .ok (.goto (-21), 3) := by decide +kernel
theorem dX10_laySingles_83 : decode cX10_laySingles 83 = .ok (.iinc 2 1, 3) := by decide +kernel
theorem dX10_laySingles_86 : decode cX10_laySingles 86 = .ok (.goto (-47), 3) := by decide +kernel
theorem dX10_laySingles_89 : decode cX10_laySingles 89 = .ok (.iload_n 1, 1) := by decide +kernel
theorem dX10_laySingles_90 : decode cX10_laySingles 90 = .ok (.ireturn, 1) := by decide +kernel
theorem dX10_layPairs_0 : decode cX10_layPairs 0 = .ok (.iload_n 1, 1) := by decide +kernel
theorem dX10_layPairs_1 : decode cX10_layPairs 1 = .ok (.istore_n 2, 1) := by decide +kernel
theorem dX10_layPairs_2 : decode cX10_layPairs 2 = .ok (.iconst 0, 1) := by decide +kernel
theorem dX10_layPairs_3 : decode cX10_layPairs 3 = .ok (.istore_n 3, 1) := by decide +kernel
theorem dX10_layPairs_4 : decode cX10_layPairs 4 = .ok (.iload_n 3, 1) := by decide +kernel
theorem dX10_layPairs_5 : decode cX10_layPairs 5 = .ok (.bipush 8, 2) := by decide +kernel
theorem dX10_layPairs_7 : decode cX10_layPairs 7 = .ok (.if_icmp .gt 76, 3) := by decide +kernel
theorem dX10_layPairs_10 : decode cX10_layPairs 10 = .ok (.iload_n 3, 1) := by decide +kernel
theorem dX10_layPairs_11 : decode cX10_layPairs 11 = .ok (.iconst 5, 1) := by decide +kernel
theorem dX10_layPairs_12 : decode cX10_layPairs 12 = .ok (.if_icmp .gt 8, 3) := by decide +kernel
theorem dX10_layPairs_15 : decode cX10_layPairs 15 = .ok (.bipush 6, 2) := by decide +kernel
theorem dX10_layPairs_17 : decode cX10_layPairs 17 = .ok (.goto 4, 3) := by decide +kernel
theorem dX10_layPairs_20 : decode cX10_layPairs 20 = .ok (.iconst 4, 1) := by decide +kernel
theorem dX10_layPairs_21 : decode cX10_layPairs 21 = .ok (.istore 4, 2) := by decide +kernel
theorem dX10_layPairs_23 : decode cX10_layPairs 23 = .ok (.iconst 1, 1) := by decide +kernel
theorem dX10_layPairs_24 : decode cX10_layPairs 24 = .ok (.istore 5, 2) := by decide +kernel
theorem dX10_layPairs_26 : decode cX10_layPairs 26 = .ok (.iload 5, 2) := by decide +kernel
theorem dX10_layPairs_28 : decode cX10_layPairs 28 = .ok (.iconst 4, 1) := by decide +kernel
theorem dX10_layPairs_29 : decode cX10_layPairs 29 = .ok (.if_icmp .gt 48, 3) := by decide +kernel
theorem dX10_layPairs_32 : decode cX10_layPairs 32 = .ok (.iconst 4, 1) := by decide +kernel
theorem dX10_layPairs_33 : decode cX10_layPairs 33 = .ok (.istore 6, 2) := by decide +kernel
theorem dX10_layPairs_35 : decode cX10_layPairs 35 = .ok (.iload 6, 2) := by decide +kernel
theorem dX10_layPairs_37 : decode cX10_layPairs 37 = .ok (.iload 4, 2) := by decide +kernel
theorem dX10_layPairs_39 : decode cX10_layPairs 39 = .ok (.if_icmp .gt 32, 3) := by decide +kernel
theorem dX10_layPairs_42 : decode cX10_layPairs 42 = .ok (.aload_n 0, 1) := by decide +kernel
theorem dX10_layPairs_43 : decode cX10_layPairs 43 = .ok (.iload_n 2, 1) := by decide +kernel
theorem dX10_layPairs_44 : decode cX10_layPairs 44 = .ok (.iconst 0, 1) := by decide +kernel
theorem dX10_layPairs_45 : decode cX10_layPairs 45 = .ok (.iconst 1, 1) := by decide +kernel
theorem dX10_layPairs_46 : decode cX10_layPairs 46 = .ok (.iload 5, 2) := by decide +kernel
theorem dX10_layPairs_48 : decode cX10_layPairs 48 = .ok (.iconst 0, 1) := by decide +kernel
theorem dX10_layPairs_49 : decode cX10_layPairs 49 = .ok (.invokevirtual 59, 3) := by decide +kernel
theorem dX10_layPairs_52 : decode cX10_layPairs 52 = .ok (.aload_n 0, 1) := by decide +kernel
theorem dX10_layPairs_53 : decode cX10_layPairs 53 = .ok (.iload_n 2, 1) := by decide +kernel
theorem dX10_layPairs_54 : decode cX10_layPairs 54 = .ok (.iconst 3, 1) := by decide +kernel
theorem dX10_layPairs_55 : decode cX10_layPairs 55 = .ok (.iconst 3, 1) := by decide +kernel
theorem dX10_layPairs_56 : decode cX10_layPairs 56 = .ok (.iload 6, 2) := by decide +kernel
theorem dX10_layPairs_58 : decode cX10_layPairs 58 = .ok (.iload_n 3, 1) := by decide +kernel
theorem dX10_layPairs_59 : decode cX10_layPairs 59 = .ok (.invokevirtual 59, 3) := by decide +kernel
theorem dX10_layPairs_62 : decode cX10_layPairs 62 = .ok (.iinc 2 1, 3) := by decide +kernel
theorem dX10_layPairs_65 : decode cX10_layPairs 65 = .ok (.iinc 6 1, 3) := by decide +kernel
theorem dX10_layPairs_68 : decode cX10_layPairs 68 = .ok (.goto (-33), 3) := by decide +kernel
theorem dX10_layPairs_71 : decode cX10_layPairs 71 = .ok (.iinc 5 1, 3) := by decide +kernel
theorem dX10_layPairs_74 : decode cX10_layPairs 74 = .ok (.goto (-48), 3) := by decide +kernel
theorem dX10_layPairs_77 : decode cX10_layPairs 77 = .ok (.iinc 3 1, 3) := by decide +kernel
theorem dX10_layPairs_80 : decode cX10_layPairs 80 = .ok (.goto (-76), 3) := by decide +kernel
theorem dX10_layPairs_83 : decode cX10_layPairs 83 = .ok (.iconst 0, 1) := by decide +kernel
theorem dX10_layPairs_84 : decode cX10_layPairs 84 = .ok (.istore_n 3, 1) := by decide +kernel
theorem dX10_layPairs_85 : decode cX10_layPairs 85 = .ok (.iload_n 3, 1) := by decide +kernel
theorem dX10_layPairs_86 : decode cX10_layPairs 86 = .ok (.bipush 8, 2) := by decide +kernel
theorem dX10_layPairs_88 : decode cX10_layPairs 88 = .ok (.if_icmp .gt 30, 3) := by decide +kernel
theorem dX10_layPairs_91 : decode cX10_layPairs 91 = .ok (.aload_n 0, 1) := by decide +kernel
theorem dX10_layPairs_92 : decode cX10_layPairs 92 = .ok (.iload_n 2, 1) := by decide +kernel
theorem dX10_layPairs_93 : decode cX10_layPairs 93 = .ok (.iconst 0, 1) := by decide +kernel
theorem dX10_layPairs_94 : decode cX10_layPairs 94 = .ok (.iconst 3, 1) := by decide +kernel
theorem dX10_layPairs_95 : decode cX10_layPairs 95 = .ok (.iconst 4, 1) := by decide +kernel
theorem dX10_layPairs_96 : decode cX10_layPairs 96 = .ok (.iload_n 3, 1) := by decide +kernel
theorem dX10_layPairs_97 : decode cX10_layPairs 97 = .ok (.invokevirtual 59, 3) := by decide +kernel
theorem dX10_layPairs_100 : decode cX10_layPairs 100 = .ok (.aload_n 0, 1) := by decide +kernel
theorem dX10_layPairs_101 : decode cX10_layPairs 101 = .ok (.iload_n 2, 1) := by decide +kernel
theorem dX10_layPairs_102 : decode cX10_layPairs 102 = .ok (.iconst 3, 1) := by decide +kernel
theorem dX10_layPairs_103 : decode cX10_layPairs 103 = .ok (.iconst 1, 1) := by decide +kernel
theorem dX10_layPairs_104 : decode cX10_layPairs 104 = .ok (.iconst 1, 1) := by decide +kernel
theorem dX10_layPairs_105 : decode cX10_layPairs 105 = .ok (.iconst 0, 1) := by decide +kernel
theorem dX10_layPairs_106 : decode cX10_layPairs 106 = .ok (.invokevirtual 59, 3) := by decide +kernel
theorem dX10_layPairs_109 : decode cX10_layPairs 109 = .ok (.iinc 2 1, 3) := by decide +kernel
theorem dX10_layPairs_112 : decode cX10_layPairs 112 = .ok (.iinc 3 1, 3) := by decide +kernel
theorem dX10_layPairs_115 : decode cX10_layPairs 115 = .ok (.goto (-30), 3) := by decide +kernel
theorem dX10_layPairs_118 : decode cX10_layPairs 118 = .ok (.return_, 1) := by decide +kernel
theorem dX10_becomeUsual_0 : decode cX10_becomeUsual 0 = .ok (.aload_n 0, 1) := by decide +kernel
theorem dX10_becomeUsual_1 : decode cX10_becomeUsual 1 = .ok (.iconst 4, 1) := by decide +kernel
theorem dX10_becomeUsual_2 : decode cX10_becomeUsual 2 = .ok (.putfield 39, 3) := by decide +kernel
theorem dX10_becomeUsual_5 : decode cX10_becomeUsual 5 = .ok (.aload_n 0, 1) := by decide +kernel
theorem dX10_becomeUsual_6 : decode cX10_becomeUsual 6 = .ok (.iconst 3, 1) := by decide +kernel
theorem dX10_becomeUsual_7 : decode cX10_becomeUsual 7 = .ok (.putfield 43, 3) := by decide +kernel
theorem dX10_becomeUsual_10 : decode cX10_becomeUsual 10 = .ok (.aload_n 0, 1) := by decide +kernel
theorem dX10_becomeUsual_11 : decode cX10_becomeUsual 11 = .ok (.getfield 14, 3) := by decide +kernel
theorem dX10_becomeUsual_14 : decode cX10_becomeUsual 14 = .ok (.invokevirtual 32, 3) := by decide +kernel
theorem dX10_becomeUsual_17 : decode cX10_becomeUsual 17 = .ok (.iconst 0, 1) := by decide +kernel
theorem dX10_becomeUsual_18 : decode cX10_becomeUsual 18 = .ok (.istore_n 1, 1) := by decide +kernel
theorem dX10_becomeUsual_19 : decode cX10_becomeUsual 19 = .ok (.iload_n 1, 1) := by decide +kernel
theorem dX10_becomeUsual_20 : decode cX10_becomeUsual 20 = .ok (.sipush 1536, 3) := by decide +kernel
theorem dX10_becomeUsual_23 : decode cX10_becomeUsual 23 = .ok (.if_icmp .ge 17, 3) := by decide +kernel
theorem dX10_becomeUsual_26 : decode cX10_becomeUsual 26 = .ok (.aload_n 0, 1) := by decide +kernel
theorem dX10_becomeUsual_27 : decode cX10_becomeUsual 27 = .ok (.getfield 14, 3) := by decide +kernel
theorem dX10_becomeUsual_30 : decode cX10_becomeUsual 30 = .ok (.iconst 0, 1) := by decide +kernel
theorem dX10_becomeUsual_31 : decode cX10_becomeUsual 31 = .ok (.invokevirtual 46, 3) := by decide +kernel
theorem dX10_becomeUsual_34 : decode cX10_becomeUsual 34 = .ok (.iinc 1 1, 3) := by decide +kernel
theorem dX10_becomeUsual_37 : decode cX10_becomeUsual 37 = .ok (.goto (-18), 3) := by decide +kernel
theorem dX10_becomeUsual_40 : decode cX10_becomeUsual 40 = .ok (.aload_n 0, 1) := by decide +kernel
theorem dX10_becomeUsual_41 : decode cX10_becomeUsual 41 = .ok (.aload_n 0, 1) := by decide +kernel
theorem dX10_becomeUsual_42 : decode cX10_becomeUsual 42 = .ok (.invokevirtual 49, 3) := by decide +kernel
theorem dX10_becomeUsual_45 : decode cX10_becomeUsual 45 = .ok (.invokevirtual 53, 3) := by decide +kernel
theorem dX10_becomeUsual_48 : decode cX10_becomeUsual 48 = .ok (.return_, 1) := by decide +kernel
theorem dJ7_fill_53178_0 : decode cJ7_fill_53178 0 = .ok (.iconst 0, 1) := by decide +kernel
theorem dJ7_fill_53178_1 : decode cJ7_fill_53178 1 = .ok (.istore_n 2, 1) := by decide +kernel
theorem dJ7_fill_53178_2 : decode cJ7_fill_53178 2 = .ok (.aload_n 0, 1) := by decide +kernel
theorem dJ7_fill_53178_3 : decode cJ7_fill_53178 3 = .ok (.arraylength, 1) := by decide +kernel
theorem dJ7_fill_53178_4 : decode cJ7_fill_53178 4 = .ok (.istore_n 3, 1) := by decide +kernel
theorem dJ7_fill_53178_5 : decode cJ7_fill_53178 5 = .ok (.iload_n 2, 1) := by decide +kernel
theorem dJ7_fill_53178_6 : decode cJ7_fill_53178 6 = .ok (.iload_n 3, 1) := by decide +kernel
theorem dJ7_fill_53178_7 : decode cJ7_fill_53178 7 = .ok (.if_icmp .ge 13, 3) := by decide +kernel
theorem dJ7_fill_53178_10 : decode cJ7_fill_53178 10 = .ok (.aload_n 0, 1) := by decide +kernel
theorem dJ7_fill_53178_11 : decode cJ7_fill_53178 11 = .ok (.iload_n 2, 1) := by decide +kernel
theorem dJ7_fill_53178_12 : decode cJ7_fill_53178 12 = .ok (.iload_n 1, 1) := by decide +kernel
theorem dJ7_fill_53178_13 : decode cJ7_fill_53178 13 = .ok (.iastore, 1) := by decide +kernel
theorem dJ7_fill_53178_14 : decode cJ7_fill_53178 14 = .ok (.iinc 2 1, 3) := by decide +kernel
theorem dJ7_fill_53178_17 : decode cJ7_fill_53178 17 = .ok (.goto (-12), 3) := by decide +kernel
theorem dJ7_fill_53178_20 : decode cJ7_fill_53178 20 = .ok (.return_, 1) := by decide +kernel
theorem dX0_wipe_0 : decode cX0_wipe 0 = .ok (.aload_n 0, 1) := by decide +kernel
theorem dX0_wipe_1 : decode cX0_wipe 1 = .ok (.getfield 15, 3) := by decide +kernel
theorem dX0_wipe_4 : decode cX0_wipe 4 = .ok (.iconst 0, 1) := by decide +kernel
theorem dX0_wipe_5 : decode cX0_wipe 5 = .ok (.invokestatic 37, 3) := by decide +kernel
theorem dX0_wipe_8 : decode cX0_wipe 8 = .ok (.aload_n 0, 1) := by decide +kernel
theorem dX0_wipe_9 : decode cX0_wipe 9 = .ok (.getfield 21, 3) := by decide +kernel
theorem dX0_wipe_12 : decode cX0_wipe 12 = .ok (.iconst 0, 1) := by decide +kernel
theorem dX0_wipe_13 : decode cX0_wipe 13 = .ok (.invokestatic 37, 3) := by decide +kernel
theorem dX0_wipe_16 : decode cX0_wipe 16 = .ok (.aload_n 0, 1) := by decide +kernel
theorem dX0_wipe_17 : decode cX0_wipe 17 = .ok (.iconst 0, 1) := by decide +kernel
theorem dX0_wipe_18 : decode cX0_wipe 18 = .ok (.putfield 43, 3) := by decide +kernel
theorem dX0_wipe_21 : decode cX0_wipe 21 = .ok (.return_, 1) := by decide +kernel
theorem dX0_fit_0 : decode cX0_fit 0 = .ok (.aload_n 0, 1) := by decide +kernel
theorem dX0_fit_1 : decode cX0_fit 1 = .ok (.iconst 0, 1) := by decide +kernel
theorem dX0_fit_2 : decode cX0_fit 2 = .ok (.iload_n 1, 1) := by decide +kernel
theorem dX0_fit_3 : decode cX0_fit 3 = .ok (.aload_n 0, 1) := by decide +kernel
theorem dX0_fit_4 : decode cX0_fit 4 = .ok (.getfield 15, 3) := by decide +kernel
theorem dX0_fit_7 : decode cX0_fit 7 = .ok (.arraylength, 1) := by decide +kernel
theorem dX0_fit_8 : decode cX0_fit 8 = .ok (.invokestatic 24, 3) := by decide +kernel
theorem dX0_fit_11 : decode cX0_fit 11 = .ok (.invokestatic 9, 3) := by decide +kernel
theorem dX0_fit_14 : decode cX0_fit 14 = .ok (.putfield 27, 3) := by decide +kernel
theorem dX0_fit_17 : decode cX0_fit 17 = .ok (.aload_n 0, 1) := by decide +kernel
theorem dX0_fit_18 : decode cX0_fit 18 = .ok (.iconst 0, 1) := by decide +kernel
theorem dX0_fit_19 : decode cX0_fit 19 = .ok (.iload_n 2, 1) := by decide +kernel
theorem dX0_fit_20 : decode cX0_fit 20 = .ok (.sipush 256, 3) := by decide +kernel
theorem dX0_fit_23 : decode cX0_fit 23 = .ok (.imul, 1) := by decide +kernel
theorem dX0_fit_24 : decode cX0_fit 24 = .ok (.aload_n 0, 1) := by decide +kernel
theorem dX0_fit_25 : decode cX0_fit 25 = .ok (.getfield 21, 3) := by decide +kernel
theorem dX0_fit_28 : decode cX0_fit 28 = .ok (.arraylength, 1) := by decide +kernel
theorem dX0_fit_29 : decode cX0_fit 29 = .ok (.invokestatic 24, 3) := by decide +kernel
theorem dX0_fit_32 : decode cX0_fit 32 = .ok (.invokestatic 9, 3) := by decide +kernel
theorem dX0_fit_35 : decode cX0_fit 35 = .ok (.putfield 31, 3) := by decide +kernel
theorem dX0_fit_38 : decode cX0_fit 38 = .ok (.aload_n 0, 1) := by decide +kernel
theorem dX0_fit_39 : decode cX0_fit 39 = .ok (.invokevirtual 34, 3) := by decide +kernel
theorem dX0_fit_42 : decode cX0_fit 42 = .ok (.return_, 1) := by decide +kernel
theorem dX8_room_0 : decode cX8_room 0 = .ok (.aload_n 0, 1) := by decide +kernel
theorem dX8_room_1 : decode cX8_room 1 = .ok (.getfield 13, 3) := by decide +kernel
theorem dX8_room_4 : decode cX8_room 4 = .ok (.arraylength, 1) := by decide +kernel
theorem dX8_room_5 : decode cX8_room 5 = .ok (.aload_n 0, 1) := by decide +kernel
theorem dX8_room_6 : decode cX8_room 6 = .ok (.getfield 19, 3) := by decide +kernel
theorem dX8_room_9 : decode cX8_room 9 = .ok (.isub, 1) := by decide +kernel
theorem dX8_room_10 : decode cX8_room 10 = .ok (.ireturn, 1) := by decide +kernel
theorem dX8_pushLowest_0 : decode cX8_pushLowest 0 = .ok (.iload_n 3, 1) := by decide +kernel
theorem dX8_pushLowest_1 : decode cX8_pushLowest 1 = .ok (.iconst 1, 1) := by decide +kernel
theorem dX8_pushLowest_2 : decode cX8_pushLowest 2 = .ok (.isub, 1) := by decide +kernel
theorem dX8_pushLowest_3 : decode cX8_pushLowest 3 = .ok (.istore 4, 2) := by decide +kernel
theorem dX8_pushLowest_5 : decode cX8_pushLowest 5 = .ok (.iload 4, 2) := by decide +kernel
theorem dX8_pushLowest_7 : decode cX8_pushLowest 7 = .ok (.ifCond .lt 21, 3) := by decide +kernel
theorem dX8_pushLowest_10 : decode cX8_pushLowest 10 = .ok (.aload_n 0, 1) := by decide +kernel
theorem dX8_pushLowest_11 : decode cX8_pushLowest 11 = .ok (.lload_n 1, 1) := by decide +kernel
theorem dX8_pushLowest_12 : decode cX8_pushLowest 12 = .ok (.bipush 8, 2) := by decide +kernel
theorem dX8_pushLowest_14 : decode cX8_pushLowest 14 = .ok (.iload 4, 2) := by decide +kernel
theorem dX8_pushLowest_16 : decode cX8_pushLowest 16 = .ok (.imul, 1) := by decide +kernel
theorem dX8_pushLowest_17 : decode cX8_pushLowest 17 = .ok (.lushr, 1) := by decide +kernel
theorem dX8_pushLowest_18 : decode cX8_pushLowest 18 = .ok (.l2i, 1) := by decide +kernel
theorem dX8_pushLowest_19 : decode cX8_pushLowest 19 = .ok (.invokevirtual 27, 3) := by decide +kernel
theorem dX8_pushLowest_22 : decode cX8_pushLowest 22 = .ok (.iinc 4 (-1), 3) := by decide +kernel
theorem dX8_pushLowest_25 : decode cX8_pushLowest 25 = .ok (.goto (-20), 3) := by decide +kernel
theorem dX8_pushLowest_28 : decode cX8_pushLowest 28 = .ok (.return_, 1) := by decide +kernel
theorem dX8_length_0 : decode cX8_length 0 = .ok (.aload_n 0, 1) := by decide +kernel
theorem dX8_length_1 : decode cX8_length 1 = .ok (.getfield 19, 3) := by decide +kernel
theorem dX8_length_4 : decode cX8_length 4 = .ok (.ireturn, 1) := by decide +kernel
theorem dX11_feed_0 : decode cX11_feed 0 = .ok (.iload_n 3, 1) := by decide +kernel
theorem dX11_feed_1 : decode cX11_feed 1 = .ok (.ifCond .lt 9, 3) := by decide +kernel
theorem dX11_feed_4 : decode cX11_feed 4 = .ok (.iload_n 3, 1) := by decide +kernel
theorem dX11_feed_5 : decode cX11_feed 5 = .ok (.bipush 8, 2) := by decide +kernel
theorem dX11_feed_7 : decode cX11_feed 7 = .ok (.if_icmp .le 6, 3) := by decide +kernel
theorem dX11_feed_10 : decode cX11_feed 10 = .ok (.bipush (-2), 2) := by decide +kernel
theorem dX11_feed_12 : decode cX11_feed 12 = .ok (.ireturn, 1) := by decide +kernel
theorem dX11_feed_13 : decode cX11_feed 13 = .ok (.iload_n 3, 1) := by decide +kernel
theorem dX11_feed_14 : decode cX11_feed 14 = .ok (.aload_n 0, 1) := by decide +kernel
theorem dX11_feed_15 : decode cX11_feed 15 = .ok (.getfield 14, 3) := by decide +kernel
theorem dX11_feed_18 : decode cX11_feed 18 = .ok (.invokevirtual 84, 3) := by decide +kernel
theorem dX11_feed_21 : decode cX11_feed 21 = .ok (.if_icmp .le 6, 3) := by decide +kernel
theorem dX11_feed_24 : decode cX11_feed 24 = .ok (.bipush (-4), 2) := by decide +kernel
theorem dX11_feed_26 : decode cX11_feed 26 = .ok (.ireturn, 1) := by decide +kernel
theorem dX11_feed_27 : decode cX11_feed 27 = .ok (.iload_n 3, 1) := by decide +kernel
theorem dX11_feed_28 : decode cX11_feed 28 = .ok (.ifCond .ne 10, 3) := by decide +kernel
theorem dX11_feed_31 : decode cX11_feed 31 = .ok (.aload_n 0, 1) := by decide +kernel
theorem dX11_feed_32 : decode cX11_feed 32 = .ok (.getfield 14, 3) := by decide +kernel
theorem dX11_feed_35 : decode cX11_feed 35 = .ok (.invokevirtual 88, 3) := by decide +kernel
theorem dX11_feed_38 : decode cX11_feed 38 = .ok (.aload_n 0, 1) := by decide +kernel
theorem dX11_feed_39 : decode cX11_feed 39 = .ok (.getfield 14, 3) := by decide +kernel
theorem dX11_feed_42 : decode cX11_feed 42 = .ok (.lload_n 1, 1) := by decide +kernel
theorem dX11_feed_43 : decode cX11_feed 43 = .ok (.iload_n 3, 1) := by decide +kernel
theorem dX11_feed_44 : decode cX11_feed 44 = .ok (.invokevirtual 91, 3) := by decide +kernel
theorem dX11_feed_47 : decode cX11_feed 47 = .ok (.aload_n 0, 1) := by decide +kernel
theorem dX11_feed_48 : decode cX11_feed 48 = .ok (.getfield 14, 3) := by decide +kernel
theorem dX11_feed_51 : decode cX11_feed 51 = .ok (.invokevirtual 95, 3) := by decide +kernel
theorem dX11_feed_54 : decode cX11_feed 54 = .ok (.ireturn, 1) := by decide +kernel
theorem dX11_fill_0 : decode cX11_fill 0 = .ok (.iload_n 1, 1) := by decide +kernel
theorem dX11_fill_1 : decode cX11_fill 1 = .ok (.ifCond .lt 13, 3) := by decide +kernel
theorem dX11_fill_4 : decode cX11_fill 4 = .ok (.iload_n 3, 1) := by decide +kernel
theorem dX11_fill_5 : decode cX11_fill 5 = .ok (.ifCond .lt 9, 3) := by decide +kernel
theorem dX11_fill_8 : decode cX11_fill 8 = .ok (.iload_n 3, 1) := by decide +kernel
theorem dX11_fill_9 : decode cX11_fill 9 = .ok (.bipush 7, 2) := by decide +kernel
theorem dX11_fill_11 : decode cX11_fill 11 = .ok (.if_icmp .le 6, 3) := by decide +kernel
theorem dX11_fill_14 : decode cX11_fill 14 = .ok (.bipush (-2), 2) := by decide +kernel
theorem dX11_fill_16 : decode cX11_fill 16 = .ok (.ireturn, 1) := by decide +kernel
theorem dX11_fill_17 : decode cX11_fill 17 = .ok (.iload_n 1, 1) := by decide +kernel
theorem dX11_fill_18 : decode cX11_fill 18 = .ok (.aload_n 0, 1) := by decide +kernel
theorem dX11_fill_19 : decode cX11_fill 19 = .ok (.getfield 14, 3) := by decide +kernel
theorem dX11_fill_22 : decode cX11_fill 22 = .ok (.invokevirtual 84, 3) := by decide +kernel
theorem dX11_fill_25 : decode cX11_fill 25 = .ok (.if_icmp .le 6, 3) := by decide +kernel
theorem dX11_fill_28 : decode cX11_fill 28 = .ok (.bipush (-4), 2) := by decide +kernel
theorem dX11_fill_30 : decode cX11_fill 30 = .ok (.ireturn, 1) := by decide +kernel
theorem dX11_fill_31 : decode cX11_fill 31 = .ok (.iload_n 2, 1) := by decide +kernel
theorem dX11_fill_32 : decode cX11_fill 32 = .ok (.istore 4, 2) := by decide +kernel
theorem dX11_fill_34 : decode cX11_fill 34 = .ok (.iconst 0, 1) := by decide +kernel
theorem dX11_fill_35 : decode cX11_fill 35 = .ok (.istore 5, 2) := by decide +kernel
theorem dX11_fill_37 : decode cX11_fill 37 = .ok (.iload 5, 2) := by decide +kernel
theorem dX11_fill_39 : decode cX11_fill 39 = .ok (.iload_n 1, 1) := by decide +kernel
theorem dX11_fill_40 : decode cX11_fill 40 = .ok (.if_icmp .ge 33, 3) := by decide +kernel
theorem dX11_fill_43 : decode cX11_fill 43 = .ok (.iload 4, 2) := by decide +kernel
theorem dX11_fill_45 : decode cX11_fill 45 = .ok (.ldc 98, 2) := by decide +kernel
theorem dX11_fill_47 : decode cX11_fill 47 = .ok (.imul, 1) := by decide +kernel
theorem dX11_fill_48 : decode cX11_fill 48 = .ok (.ldc 99, 2) := by decide +kernel
theorem dX11_fill_50 : decode cX11_fill 50 = .ok (.iadd, 1) := by decide +kernel
theorem dX11_fill_51 : decode cX11_fill 51 = .ok (.istore 4, 2) := by decide +kernel
theorem dX11_fill_53 : decode cX11_fill 53 = .ok (.aload_n 0, 1) := by decide +kernel
theorem dX11_fill_54 : decode cX11_fill 54 = .ok (.getfield 14, 3) := by decide +kernel
theorem dX11_fill_57 : decode cX11_fill 57 = .ok (.iload 4, 2) := by decide +kernel
theorem dX11_fill_59 : decode cX11_fill 59 = .ok (.bipush 24, 2) := by decide +kernel
theorem dX11_fill_61 : decode cX11_fill 61 = .ok (.iushr, 1) := by decide +kernel
theorem dX11_fill_62 : decode cX11_fill 62 = .ok (.iload_n 3, 1) := by decide +kernel
theorem dX11_fill_63 : decode cX11_fill 63 = .ok (.iushr, 1) := by decide +kernel
theorem dX11_fill_64 : decode cX11_fill 64 = .ok (.invokevirtual 100, 3) := by decide +kernel
theorem dX11_fill_67 : decode cX11_fill 67 = .ok (.iinc 5 1, 3) := by decide +kernel
theorem dX11_fill_70 : decode cX11_fill 70 = .ok (.goto (-33), 3) := by decide +kernel
theorem dX11_fill_73 : decode cX11_fill 73 = .ok (.aload_n 0, 1) := by decide +kernel
theorem dX11_fill_74 : decode cX11_fill 74 = .ok (.getfield 14, 3) := by decide +kernel
theorem dX11_fill_77 : decode cX11_fill 77 = .ok (.invokevirtual 95, 3) := by decide +kernel
theorem dX11_fill_80 : decode cX11_fill 80 = .ok (.ireturn, 1) := by decide +kernel
theorem dX8_append_0 : decode cX8_append 0 = .ok (.iload_n 2, 1) := by decide +kernel
theorem dX8_append_1 : decode cX8_append 1 = .ok (.ifCond .lt 25, 3) := by decide +kernel
theorem dX8_append_4 : decode cX8_append 4 = .ok (.iload_n 3, 1) := by decide +kernel
theorem dX8_append_5 : decode cX8_append 5 = .ok (.ifCond .lt 21, 3) := by decide +kernel
theorem dX8_append_8 : decode cX8_append 8 = .ok (.iload_n 3, 1) := by decide +kernel
theorem dX8_append_9 : decode cX8_append 9 = .ok (.aload_n 1, 1) := by decide +kernel
theorem dX8_append_10 : decode cX8_append 10 = .ok (.getfield 19, 3) := by decide +kernel
theorem dX8_append_13 : decode cX8_append 13 = .ok (.if_icmp .gt 13, 3) := by decide +kernel
theorem dX8_append_16 : decode cX8_append 16 = .ok (.iload_n 2, 1) := by decide +kernel
theorem dX8_append_17 : decode cX8_append 17 = .ok (.aload_n 1, 1) := by decide +kernel
theorem dX8_append_18 : decode cX8_append 18 = .ok (.getfield 19, 3) := by decide +kernel
theorem dX8_append_21 : decode cX8_append 21 = .ok (.iload_n 3, 1) := by decide +kernel
theorem dX8_append_22 : decode cX8_append 22 = .ok (.isub, 1) := by decide +kernel
theorem dX8_append_23 : decode cX8_append 23 = .ok (.if_icmp .le 4, 3) := by decide +kernel
theorem dX8_append_26 : decode cX8_append 26 = .ok (.return_, 1) := by decide +kernel
theorem dX8_append_27 : decode cX8_append 27 = .ok (.iload_n 3, 1) := by decide +kernel
theorem dX8_append_28 : decode cX8_append 28 = .ok (.aload_n 0, 1) := by decide +kernel
theorem dX8_append_29 : decode cX8_append 29 = .ok (.invokevirtual 37, 3) := by decide +kernel
theorem dX8_append_32 : decode cX8_append 32 = .ok (.invokestatic 41, 3) := by decide +kernel
theorem dX8_append_35 : decode cX8_append 35 = .ok (.istore 4, 2) := by decide +kernel
theorem dX8_append_37 : decode cX8_append 37 = .ok (.aload_n 1, 1) := by decide +kernel
theorem dX8_append_38 : decode cX8_append 38 = .ok (.getfield 13, 3) := by decide +kernel
theorem dX8_append_41 : decode cX8_append 41 = .ok (.iload_n 2, 1) := by decide +kernel
theorem dX8_append_42 : decode cX8_append 42 = .ok (.aload_n 0, 1) := by decide +kernel
theorem dX8_append_43 : decode cX8_append 43 = .ok (.getfield 13, 3) := by decide +kernel
theorem dX8_append_46 : decode cX8_append 46 = .ok (.aload_n 0, 1) := by decide +kernel
theorem dX8_append_47 : decode cX8_append 47 = .ok (.getfield 19, 3) := by decide +kernel
theorem dX8_append_50 : decode cX8_append 50 = .ok (.iload 4, 2) := by decide +kernel
theorem dX8_append_52 : decode cX8_append 52 = .ok (.invokestatic 44, 3) := by decide +kernel
theorem dX8_append_55 : decode cX8_append 55 = .ok (.aload_n 0, 1) := by decide +kernel
theorem dX8_append_56 : decode cX8_append 56 = .ok (.dup, 1) := by decide +kernel
theorem dX8_append_57 : decode cX8_append 57 = .ok (.getfield 19, 3) := by decide +kernel
theorem dX8_append_60 : decode cX8_append 60 = .ok (.iload 4, 2) := by decide +kernel
theorem dX8_append_62 : decode cX8_append 62 = .ok (.iadd, 1) := by decide +kernel
theorem dX8_append_63 : decode cX8_append 63 = .ok (.putfield 19, 3) := by decide +kernel
theorem dX8_append_66 : decode cX8_append 66 = .ok (.aload_n 0, 1) := by decide +kernel
theorem dX8_append_67 : decode cX8_append 67 = .ok (.aload_n 0, 1) := by decide +kernel
theorem dX8_append_68 : decode cX8_append 68 = .ok (.getfield 23, 3) := by decide +kernel
theorem dX8_append_71 : decode cX8_append 71 = .ok (.ifCond .ne 9, 3) := by decide +kernel
theorem dX8_append_74 : decode cX8_append 74 = .ok (.iload 4, 2) := by decide +kernel
theorem dX8_append_76 : decode cX8_append 76 = .ok (.iload_n 3, 1) := by decide +kernel
theorem dX8_append_77 : decode cX8_append 77 = .ok (.if_icmp .ge 7, 3) := by decide +kernel
theorem dX8_append_80 : decode cX8_append 80 = .ok (.iconst 1, 1) := by decide +kernel
theorem dX8_append_81 : decode cX8_append 81 = .ok (.goto 4, 3) := by decide +kernel
theorem dX8_append_84 : decode cX8_append 84 = .ok (.iconst 0, 1) := by decide +kernel
theorem dX8_append_85 : decode cX8_append 85 = .ok (.putfield 23, 3) := by decide +kernel
theorem dX8_append_88 : decode cX8_append 88 = .ok (.return_, 1) := by decide +kernel
theorem dX11_again_0 : decode cX11_again 0 = .ok (.iload_n 1, 1) := by decide +kernel
theorem dX11_again_1 : decode cX11_again 1 = .ok (.ifCond .lt 31, 3) := by decide +kernel
theorem dX11_again_4 : decode cX11_again 4 = .ok (.iload_n 2, 1) := by decide +kernel
theorem dX11_again_5 : decode cX11_again 5 = .ok (.ifCond .lt 27, 3) := by decide +kernel
theorem dX11_again_8 : decode cX11_again 8 = .ok (.iload_n 2, 1) := by decide +kernel
theorem dX11_again_9 : decode cX11_again 9 = .ok (.aload_n 0, 1) := by decide +kernel
theorem dX11_again_10 : decode cX11_again 10 = .ok (.getfield 14, 3) := by decide +kernel
theorem dX11_again_13 : decode cX11_again 13 = .ok (.invokevirtual 95, 3) := by decide +kernel
theorem dX11_again_16 : decode cX11_again 16 = .ok (.if_icmp .gt 16, 3) := by decide +kernel
theorem dX11_again_19 : decode cX11_again 19 = .ok (.iload_n 1, 1) := by decide +kernel
theorem dX11_again_20 : decode cX11_again 20 = .ok (.aload_n 0, 1) := by decide +kernel
theorem dX11_again_21 : decode cX11_again 21 = .ok (.getfield 14, 3) := by decide +kernel
theorem dX11_again_24 : decode cX11_again 24 = .ok (.invokevirtual 95, 3) := by decide +kernel
theorem dX11_again_27 : decode cX11_again 27 = .ok (.iload_n 2, 1) := by decide +kernel
theorem dX11_again_28 : decode cX11_again 28 = .ok (.isub, 1) := by decide +kernel
theorem dX11_again_29 : decode cX11_again 29 = .ok (.if_icmp .le 6, 3) := by decide +kernel
theorem dX11_again_32 : decode cX11_again 32 = .ok (.bipush (-2), 2) := by decide +kernel
theorem dX11_again_34 : decode cX11_again 34 = .ok (.ireturn, 1) := by decide +kernel
theorem dX11_again_35 : decode cX11_again 35 = .ok (.iload_n 2, 1) := by decide +kernel
theorem dX11_again_36 : decode cX11_again 36 = .ok (.aload_n 0, 1) := by decide +kernel
theorem dX11_again_37 : decode cX11_again 37 = .ok (.getfield 14, 3) := by decide +kernel
theorem dX11_again_40 : decode cX11_again 40 = .ok (.invokevirtual 84, 3) := by decide +kernel
theorem dX11_again_43 : decode cX11_again 43 = .ok (.if_icmp .le 6, 3) := by decide +kernel
theorem dX11_again_46 : decode cX11_again 46 = .ok (.bipush (-4), 2) := by decide +kernel
theorem dX11_again_48 : decode cX11_again 48 = .ok (.ireturn, 1) := by decide +kernel
theorem dX11_again_49 : decode cX11_again 49 = .ok (.aload_n 0, 1) := by decide +kernel
theorem dX11_again_50 : decode cX11_again 50 = .ok (.getfield 14, 3) := by decide +kernel
theorem dX11_again_53 : decode cX11_again 53 = .ok (.aload_n 0, 1) := by decide +kernel
theorem dX11_again_54 : decode cX11_again 54 = .ok (.getfield 14, 3) := by decide +kernel
theorem dX11_again_57 : decode cX11_again 57 = .ok (.iload_n 1, 1) := by decide +kernel
theorem dX11_again_58 : decode cX11_again 58 = .ok (.iload_n 2, 1) := by decide +kernel
theorem dX11_again_59 : decode cX11_again 59 = .ok (.invokevirtual 103, 3) := by decide +kernel
theorem dX11_again_62 : decode cX11_again 62 = .ok (.aload_n 0, 1) := by decide +kernel
theorem dX11_again_63 : decode cX11_again 63 = .ok (.getfield 14, 3) := by decide +kernel
theorem dX11_again_66 : decode cX11_again 66 = .ok (.invokevirtual 95, 3) := by decide +kernel
theorem dX11_again_69 : decode cX11_again 69 = .ok (.ireturn, 1) := by decide +kernel
theorem dX11_size_0 : decode cX11_size 0 = .ok (.aload_n 0, 1) := by decide +kernel
theorem dX11_size_1 : decode cX11_size 1 = .ok (.getfield 14, 3) := by decide +kernel
theorem dX11_size_4 : decode cX11_size 4 = .ok (.invokevirtual 95, 3) := by decide +kernel
theorem dX11_size_7 : decode cX11_size 7 = .ok (.ireturn, 1) := by decide +kernel
theorem dX11_isByte_0 : decode cX11_isByte 0 = .ok (.iload_n 0, 1) := by decide +kernel
theorem dX11_isByte_1 : decode cX11_isByte 1 = .ok (.ifCond .lt 14, 3) := by decide +kernel
theorem dX11_isByte_4 : decode cX11_isByte 4 = .ok (.iload_n 0, 1) := by decide +kernel
theorem dX11_isByte_5 : decode cX11_isByte 5 = .ok (.sipush 255, 3) := by decide +kernel
theorem dX11_isByte_8 : decode cX11_isByte 8 = .ok (.if_icmp .gt 7, 3) := by decide +kernel
theorem dX11_isByte_11 : decode cX11_isByte 11 = .ok (.iconst 1, 1) := by decide +kernel
theorem dX11_isByte_12 : decode cX11_isByte 12 = .ok (.goto 4, 3) := by decide +kernel
theorem dX11_isByte_15 : decode cX11_isByte 15 = .ok (.iconst 0, 1) := by decide +kernel
theorem dX11_isByte_16 : decode cX11_isByte 16 = .ok (.ireturn, 1) := by decide +kernel
theorem dX8_at_0 : decode cX8_at 0 = .ok (.iload_n 1, 1) := by decide +kernel
theorem dX8_at_1 : decode cX8_at 1 = .ok (.ifCond .lt 24, 3) := by decide +kernel
theorem dX8_at_4 : decode cX8_at 4 = .ok (.iload_n 1, 1) := by decide +kernel
theorem dX8_at_5 : decode cX8_at 5 = .ok (.aload_n 0, 1) := by decide +kernel
theorem dX8_at_6 : decode cX8_at 6 = .ok (.getfield 19, 3) := by decide +kernel
theorem dX8_at_9 : decode cX8_at 9 = .ok (.if_icmp .ge 16, 3) := by decide +kernel
theorem dX8_at_12 : decode cX8_at 12 = .ok (.aload_n 0, 1) := by decide +kernel
theorem dX8_at_13 : decode cX8_at 13 = .ok (.getfield 13, 3) := by decide +kernel
theorem dX8_at_16 : decode cX8_at 16 = .ok (.iload_n 1, 1) := by decide +kernel
theorem dX8_at_17 : decode cX8_at 17 = .ok (.baload, 1) := by decide +kernel
theorem dX8_at_18 : decode cX8_at 18 = .ok (.sipush 255, 3) := by decide +kernel
theorem dX8_at_21 : decode cX8_at 21 = .ok (.iand, 1) := by decide +kernel
theorem dX8_at_22 : decode cX8_at 22 = .ok (.goto 4, 3) := by decide +kernel
theorem dX8_at_25 : decode cX8_at 25 = .ok (.iconst (-1), 1) := by decide +kernel
theorem dX8_at_26 : decode cX8_at 26 = .ok (.ireturn, 1) := by decide +kernel
theorem dX11_set_0 : decode cX11_set 0 = .ok (.iload_n 1, 1) := by decide +kernel
theorem dX11_set_1 : decode cX11_set 1 = .ok (.ifCond .lt 21, 3) := by decide +kernel
theorem dX11_set_4 : decode cX11_set 4 = .ok (.iload_n 1, 1) := by decide +kernel
theorem dX11_set_5 : decode cX11_set 5 = .ok (.aload_n 0, 1) := by decide +kernel
theorem dX11_set_6 : decode cX11_set 6 = .ok (.getfield 14, 3) := by decide +kernel
theorem dX11_set_9 : decode cX11_set 9 = .ok (.invokevirtual 95, 3) := by decide +kernel
theorem dX11_set_12 : decode cX11_set 12 = .ok (.if_icmp .ge 10, 3) := by decide +kernel
theorem dX11_set_15 : decode cX11_set 15 = .ok (.iload_n 2, 1) := by decide +kernel
theorem dX11_set_16 : decode cX11_set 16 = .ok (.invokestatic 107, 3) := by decide +kernel
theorem dX11_set_19 : decode cX11_set 19 = .ok (.ifCond .ne 6, 3) := by decide +kernel
theorem dX11_set_22 : decode cX11_set 22 = .ok (.bipush (-2), 2) := by decide +kernel
theorem dX11_set_24 : decode cX11_set 24 = .ok (.ireturn, 1) := by decide +kernel
theorem dX11_set_25 : decode cX11_set 25 = .ok (.aload_n 0, 1) := by decide +kernel
theorem dX11_set_26 : decode cX11_set 26 = .ok (.getfield 14, 3) := by decide +kernel
theorem dX11_set_29 : decode cX11_set 29 = .ok (.iload_n 1, 1) := by decide +kernel
theorem dX11_set_30 : decode cX11_set 30 = .ok (.invokevirtual 111, 3) := by decide +kernel
theorem dX11_set_33 : decode cX11_set 33 = .ok (.istore_n 3, 1) := by decide +kernel
theorem dX11_set_34 : decode cX11_set 34 = .ok (.aload_n 0, 1) := by decide +kernel
theorem dX11_set_35 : decode cX11_set 35 = .ok (.getfield 14, 3) := by decide +kernel
theorem dX11_set_38 : decode cX11_set 38 = .ok (.iload_n 1, 1) := by decide +kernel
theorem dX11_set_39 : decode cX11_set 39 = .ok (.iload_n 2, 1) := by decide +kernel
theorem dX11_set_40 : decode cX11_set 40 = .ok (.invokevirtual 115, 3) := by decide +kernel
theorem dX11_set_43 : decode cX11_set 43 = .ok (.iload_n 3, 1) := by decide +kernel
theorem dX11_set_44 : decode cX11_set 44 = .ok (.ireturn, 1) := by decide +kernel
theorem dX8_shorten_0 : decode cX8_shorten 0 = .ok (.iload_n 1, 1) := by decide +kernel
theorem dX8_shorten_1 : decode cX8_shorten 1 = .ok (.ifCond .lt 16, 3) := by decide +kernel
theorem dX8_shorten_4 : decode cX8_shorten 4 = .ok (.iload_n 1, 1) := by decide +kernel
theorem dX8_shorten_5 : decode cX8_shorten 5 = .ok (.aload_n 0, 1) := by decide +kernel
theorem dX8_shorten_6 : decode cX8_shorten 6 = .ok (.getfield 19, 3) := by decide +kernel
theorem dX8_shorten_9 : decode cX8_shorten 9 = .ok (.if_icmp .ge 8, 3) := by decide +kernel
theorem dX8_shorten_12 : decode cX8_shorten 12 = .ok (.aload_n 0, 1) := by decide +kernel
theorem dX8_shorten_13 : decode cX8_shorten 13 = .ok (.iload_n 1, 1) := by decide +kernel
theorem dX8_shorten_14 : decode cX8_shorten 14 = .ok (.putfield 19, 3) := by decide +kernel
theorem dX8_shorten_17 : decode cX8_shorten 17 = .ok (.return_, 1) := by decide +kernel
theorem dX11_cut_0 : decode cX11_cut 0 = .ok (.iload_n 1, 1) := by decide +kernel
theorem dX11_cut_1 : decode cX11_cut 1 = .ok (.ifCond .lt 14, 3) := by decide +kernel
theorem dX11_cut_4 : decode cX11_cut 4 = .ok (.iload_n 1, 1) := by decide +kernel
theorem dX11_cut_5 : decode cX11_cut 5 = .ok (.aload_n 0, 1) := by decide +kernel
theorem dX11_cut_6 : decode cX11_cut 6 = .ok (.getfield 14, 3) := by decide +kernel
theorem dX11_cut_9 : decode cX11_cut 9 = .ok (.invokevirtual 95, 3) := by decide +kernel
theorem dX11_cut_12 : decode cX11_cut 12 = .ok (.if_icmp .le 6, 3) := by decide +kernel
theorem dX11_cut_15 : decode cX11_cut 15 = .ok (.bipush (-2), 2) := by decide +kernel
theorem dX11_cut_17 : decode cX11_cut 17 = .ok (.ireturn, 1) := by decide +kernel
theorem dX11_cut_18 : decode cX11_cut 18 = .ok (.aload_n 0, 1) := by decide +kernel
theorem dX11_cut_19 : decode cX11_cut 19 = .ok (.getfield 14, 3) := by decide +kernel
theorem dX11_cut_22 : decode cX11_cut 22 = .ok (.invokevirtual 95, 3) := by decide +kernel
theorem dX11_cut_25 : decode cX11_cut 25 = .ok (.istore_n 2, 1) := by decide +kernel
theorem dX11_cut_26 : decode cX11_cut 26 = .ok (.aload_n 0, 1) := by decide +kernel
theorem dX11_cut_27 : decode cX11_cut 27 = .ok (.getfield 14, 3) := by decide +kernel
theorem dX11_cut_30 : decode cX11_cut 30 = .ok (.iload_n 1, 1) := by decide +kernel
theorem dX11_cut_31 : decode cX11_cut 31 = .ok (.invokevirtual 118, 3) := by decide +kernel
theorem dX11_cut_34 : decode cX11_cut 34 = .ok (.iload_n 2, 1) := by decide +kernel
theorem dX11_cut_35 : decode cX11_cut 35 = .ok (.ireturn, 1) := by decide +kernel
theorem dX11_swap_0 : decode cX11_swap 0 = .ok (.aload_n 0, 1) := by decide +kernel
theorem dX11_swap_1 : decode cX11_swap 1 = .ok (.getfield 14, 3) := by decide +kernel
theorem dX11_swap_4 : decode cX11_swap 4 = .ok (.astore_n 1, 1) := by decide +kernel
theorem dX11_swap_5 : decode cX11_swap 5 = .ok (.aload_n 0, 1) := by decide +kernel
theorem dX11_swap_6 : decode cX11_swap 6 = .ok (.aload_n 0, 1) := by decide +kernel
theorem dX11_swap_7 : decode cX11_swap 7 = .ok (.getfield 18, 3) := by decide +kernel
theorem dX11_swap_10 : decode cX11_swap 10 = .ok (.putfield 14, 3) := by decide +kernel
theorem dX11_swap_13 : decode cX11_swap 13 = .ok (.aload_n 0, 1) := by decide +kernel
theorem dX11_swap_14 : decode cX11_swap 14 = .ok (.aload_n 1, 1) := by decide +kernel
theorem dX11_swap_15 : decode cX11_swap 15 = .ok (.putfield 18, 3) := by decide +kernel
theorem dX11_swap_18 : decode cX11_swap 18 = .ok (.aload_n 0, 1) := by decide +kernel
theorem dX11_swap_19 : decode cX11_swap 19 = .ok (.getfield 14, 3) := by decide +kernel
theorem dX11_swap_22 : decode cX11_swap 22 = .ok (.invokevirtual 95, 3) := by decide +kernel
theorem dX11_swap_25 : decode cX11_swap 25 = .ok (.ireturn, 1) := by decide +kernel
theorem dX11_differ_0 : decode cX11_differ 0 = .ok (.aload_n 0, 1) := by decide +kernel
theorem dX11_differ_1 : decode cX11_differ 1 = .ok (.getfield 14, 3) := by decide +kernel
theorem dX11_differ_4 : decode cX11_differ 4 = .ok (.invokevirtual 95, 3) := by decide +kernel
theorem dX11_differ_7 : decode cX11_differ 7 = .ok (.aload_n 0, 1) := by decide +kernel
theorem dX11_differ_8 : decode cX11_differ 8 = .ok (.getfield 18, 3) := by decide +kernel
theorem dX11_differ_11 : decode cX11_differ 11 = .ok (.invokevirtual 95, 3) := by decide +kernel
theorem dX11_differ_14 : decode cX11_differ 14 = .ok (.invokestatic 121, 3) := by decide +kernel
theorem dX11_differ_17 : decode cX11_differ 17 = .ok (.istore_n 1, 1) := by decide +kernel
theorem dX11_differ_18 : decode cX11_differ 18 = .ok (.iconst 0, 1) := by decide +kernel
theorem dX11_differ_19 : decode cX11_differ 19 = .ok (.istore_n 2, 1) := by decide +kernel
theorem dX11_differ_20 : decode cX11_differ 20 = .ok (.iload_n 2, 1) := by decide +kernel
theorem dX11_differ_21 : decode cX11_differ 21 = .ok (.iload_n 1, 1) := by decide +kernel
theorem dX11_differ_22 : decode cX11_differ 22 = .ok (.if_icmp .ge 30, 3) := by decide +kernel
theorem dX11_differ_25 : decode cX11_differ 25 = .ok (.aload_n 0, 1) := by decide +kernel
theorem dX11_differ_26 : decode cX11_differ 26 = .ok (.getfield 14, 3) := by decide +kernel
theorem dX11_differ_29 : decode cX11_differ 29 = .ok (.iload_n 2, 1) := by decide +kernel
theorem dX11_differ_30 : decode cX11_differ 30 = .ok (.invokevirtual 111, 3) := by decide +kernel
theorem dX11_differ_33 : decode cX11_differ 33 = .ok (.aload_n 0, 1) := by decide +kernel
theorem dX11_differ_34 : decode cX11_differ 34 = .ok (.getfield 18, 3) := by decide +kernel
theorem dX11_differ_37 : decode cX11_differ 37 = .ok (.iload_n 2, 1) := by decide +kernel
theorem dX11_differ_38 : decode cX11_differ 38 = .ok (.invokevirtual 111, 3) := by decide +kernel
theorem dX11_differ_41 : decode cX11_differ 41 = .ok (.if_icmp .eq 5, 3) := by decide +kernel
theorem dX11_differ_44 : decode cX11_differ 44 = .ok (.iload_n 2, 1) := by decide +kernel
theorem dX11_differ_45 : decode cX11_differ 45 = .ok (.ireturn, 1) := by decide +kernel
theorem dX11_differ_46 : decode cX11_differ 46 = .ok (.iinc 2 1, 3) := by decide +kernel
theorem dX11_differ_49 : decode cX11_differ 49 = .ok (.goto (-29), 3) := by decide +kernel
theorem dX11_differ_52 : decode cX11_differ 52 = .ok (.bipush (-3), 2) := by decide +kernel
theorem dX11_differ_54 : decode cX11_differ 54 = .ok (.ireturn, 1) := by decide +kernel
theorem dX11_out_0 : decode cX11_out 0 = .ok (.iload_n 1, 1) := by decide +kernel
theorem dX11_out_1 : decode cX11_out 1 = .ok (.ifCond .lt 14, 3) := by decide +kernel
theorem dX11_out_4 : decode cX11_out 4 = .ok (.iload_n 1, 1) := by decide +kernel
theorem dX11_out_5 : decode cX11_out 5 = .ok (.aload_n 0, 1) := by decide +kernel
theorem dX11_out_6 : decode cX11_out 6 = .ok (.getfield 18, 3) := by decide +kernel
theorem dX11_out_9 : decode cX11_out 9 = .ok (.invokevirtual 95, 3) := by decide +kernel
theorem dX11_out_12 : decode cX11_out 12 = .ok (.if_icmp .lt 8, 3) := by decide +kernel
theorem dX11_out_15 : decode cX11_out 15 = .ok (.bipush (-2), 2) := by decide +kernel
theorem dX11_out_17 : decode cX11_out 17 = .ok (.goto 11, 3) := by decide +kernel
theorem dX11_out_20 : decode cX11_out 20 = .ok (.aload_n 0, 1) := by decide +kernel
theorem dX11_out_21 : decode cX11_out 21 = .ok (.getfield 18, 3) := by decide +kernel
theorem dX11_out_24 : decode cX11_out 24 = .ok (.iload_n 1, 1) := by decide +kernel
theorem dX11_out_25 : decode cX11_out 25 = .ok (.invokevirtual 111, 3) := by decide +kernel
theorem dX11_out_28 : decode cX11_out 28 = .ok (.ireturn, 1) := by decide +kernel
theorem dX11_old_0 : decode cX11_old 0 = .ok (.aload_n 0, 1) := by decide +kernel
theorem dX11_old_1 : decode cX11_old 1 = .ok (.getfield 14, 3) := by decide +kernel
theorem dX11_old_4 : decode cX11_old 4 = .ok (.invokevirtual 95, 3) := by decide +kernel
theorem dX11_old_7 : decode cX11_old 7 = .ok (.sipush 4000, 3) := by decide +kernel
theorem dX11_old_10 : decode cX11_old 10 = .ok (.if_icmp .le 6, 3) := by decide +kernel
theorem dX11_old_13 : decode cX11_old 13 = .ok (.bipush (-4), 2) := by decide +kernel
theorem dX11_old_15 : decode cX11_old 15 = .ok (.ireturn, 1) := by decide +kernel
theorem dX11_old_16 : decode cX11_old 16 = .ok (.aload_n 0, 1) := by decide +kernel
theorem dX11_old_17 : decode cX11_old 17 = .ok (.getfield 24, 3) := by decide +kernel
theorem dX11_old_20 : decode cX11_old 20 = .ok (.invokevirtual 88, 3) := by decide +kernel
theorem dX11_old_23 : decode cX11_old 23 = .ok (.aload_n 0, 1) := by decide +kernel
theorem dX11_old_24 : decode cX11_old 24 = .ok (.getfield 24, 3) := by decide +kernel
theorem dX11_old_27 : decode cX11_old 27 = .ok (.aload_n 0, 1) := by decide +kernel
theorem dX11_old_28 : decode cX11_old 28 = .ok (.getfield 14, 3) := by decide +kernel
theorem dX11_old_31 : decode cX11_old 31 = .ok (.iconst 0, 1) := by decide +kernel
theorem dX11_old_32 : decode cX11_old 32 = .ok (.aload_n 0, 1) := by decide +kernel
theorem dX11_old_33 : decode cX11_old 33 = .ok (.getfield 14, 3) := by decide +kernel
theorem dX11_old_36 : decode cX11_old 36 = .ok (.invokevirtual 95, 3) := by decide +kernel
theorem dX11_old_39 : decode cX11_old 39 = .ok (.invokevirtual 103, 3) := by decide +kernel
theorem dX11_old_42 : decode cX11_old 42 = .ok (.aload_n 0, 1) := by decide +kernel
theorem dX11_old_43 : decode cX11_old 43 = .ok (.getfield 24, 3) := by decide +kernel
theorem dX11_old_46 : decode cX11_old 46 = .ok (.invokevirtual 95, 3) := by decide +kernel
theorem dX11_old_49 : decode cX11_old 49 = .ok (.ireturn, 1) := by decide +kernel
theorem dX10_become_0 : decode cX10_become 0 = .ok (.aload_n 0, 1) := by decide +kernel
theorem dX10_become_1 : decode cX10_become 1 = .ok (.getfield 14, 3) := by decide +kernel
theorem dX10_become_4 : decode cX10_become 4 = .ok (.invokevirtual 32, 3) := by decide +kernel
theorem dX10_become_7 : decode cX10_become 7 = .ok (.aload_n 0, 1) := by decide +kernel
theorem dX10_become_8 : decode cX10_become 8 = .ok (.getfield 14, 3) := by decide +kernel
theorem dX10_become_11 : decode cX10_become 11 = .ok (.aload_n 1, 1) := by decide +kernel
theorem dX10_become_12 : decode cX10_become 12 = .ok (.iconst 0, 1) := by decide +kernel
theorem dX10_become_13 : decode cX10_become 13 = .ok (.sipush 1536, 3) := by decide +kernel
theorem dX10_become_16 : decode cX10_become 16 = .ok (.invokevirtual 35, 3) := by decide +kernel
theorem dX10_become_19 : decode cX10_become 19 = .ok (.aload_n 0, 1) := by decide +kernel
theorem dX10_become_20 : decode cX10_become 20 = .ok (.iload_n 2, 1) := by decide +kernel
theorem dX10_become_21 : decode cX10_become 21 = .ok (.putfield 39, 3) := by decide +kernel
theorem dX10_become_24 : decode cX10_become 24 = .ok (.aload_n 0, 1) := by decide +kernel
theorem dX10_become_25 : decode cX10_become 25 = .ok (.iload_n 3, 1) := by decide +kernel
theorem dX10_become_26 : decode cX10_become 26 = .ok (.putfield 43, 3) := by decide +kernel
theorem dX10_become_29 : decode cX10_become 29 = .ok (.return_, 1) := by decide +kernel
theorem dX11_given_0 : decode cX11_given 0 = .ok (.iload_n 1, 1) := by decide +kernel
theorem dX11_given_1 : decode cX11_given 1 = .ok (.ifCond .lt 19, 3) := by decide +kernel
theorem dX11_given_4 : decode cX11_given 4 = .ok (.iload_n 1, 1) := by decide +kernel
theorem dX11_given_5 : decode cX11_given 5 = .ok (.bipush 32, 2) := by decide +kernel
theorem dX11_given_7 : decode cX11_given 7 = .ok (.if_icmp .gt 13, 3) := by decide +kernel
theorem dX11_given_10 : decode cX11_given 10 = .ok (.iload_n 2, 1) := by decide +kernel
theorem dX11_given_11 : decode cX11_given 11 = .ok (.ifCond .lt 9, 3) := by decide +kernel
theorem dX11_given_14 : decode cX11_given 14 = .ok (.iload_n 2, 1) := by decide +kernel
theorem dX11_given_15 : decode cX11_given 15 = .ok (.bipush 16, 2) := by decide +kernel
theorem dX11_given_17 : decode cX11_given 17 = .ok (.if_icmp .le 6, 3) := by decide +kernel
theorem dX11_given_20 : decode cX11_given 20 = .ok (.bipush (-2), 2) := by decide +kernel
theorem dX11_given_22 : decode cX11_given 22 = .ok (.ireturn, 1) := by decide +kernel
theorem dX11_given_23 : decode cX11_given 23 = .ok (.aload_n 0, 1) := by decide +kernel
theorem dX11_given_24 : decode cX11_given 24 = .ok (.getfield 37, 3) := by decide +kernel
theorem dX11_given_27 : decode cX11_given 27 = .ok (.aload_n 0, 1) := by decide +kernel
theorem dX11_given_28 : decode cX11_given 28 = .ok (.getfield 33, 3) := by decide +kernel
theorem dX11_given_31 : decode cX11_given 31 = .ok (.getfield 127, 3) := by decide +kernel
theorem dX11_given_34 : decode cX11_given 34 = .ok (.iload_n 1, 1) := by decide +kernel
theorem dX11_given_35 : decode cX11_given 35 = .ok (.iload_n 2, 1) := by decide +kernel
theorem dX11_given_36 : decode cX11_given 36 = .ok (.invokevirtual 130, 3) := by decide +kernel
theorem dX11_given_39 : decode cX11_given 39 = .ok (.sipush 256, 3) := by decide +kernel
theorem dX11_given_42 : decode cX11_given 42 = .ok (.ireturn, 1) := by decide +kernel
theorem dX11_isEntry_0 : decode cX11_isEntry 0 = .ok (.iload_n 0, 1) := by decide +kernel
theorem dX11_isEntry_1 : decode cX11_isEntry 1 = .ok (.ifCond .lt 24, 3) := by decide +kernel
theorem dX11_isEntry_4 : decode cX11_isEntry 4 = .ok (.iload_n 0, 1) := by decide +kernel
theorem dX11_isEntry_5 : decode cX11_isEntry 5 = .ok (.sipush 256, 3) := by decide +kernel
theorem dX11_isEntry_8 : decode cX11_isEntry 8 = .ok (.if_icmp .ge 17, 3) := by decide +kernel
theorem dX11_isEntry_11 : decode cX11_isEntry 11 = .ok (.iload_n 1, 1) := by decide +kernel
theorem dX11_isEntry_12 : decode cX11_isEntry 12 = .ok (.ifCond .lt 13, 3) := by decide +kernel
theorem dX11_isEntry_15 : decode cX11_isEntry 15 = .ok (.iload_n 1, 1) := by decide +kernel
theorem dX11_isEntry_16 : decode cX11_isEntry 16 = .ok (.bipush 6, 2) := by decide +kernel
theorem dX11_isEntry_18 : decode cX11_isEntry 18 = .ok (.if_icmp .ge 7, 3) := by decide +kernel
theorem dX11_isEntry_21 : decode cX11_isEntry 21 = .ok (.iconst 1, 1) := by decide +kernel
theorem dX11_isEntry_22 : decode cX11_isEntry 22 = .ok (.goto 4, 3) := by decide +kernel
theorem dX11_isEntry_25 : decode cX11_isEntry 25 = .ok (.iconst 0, 1) := by decide +kernel
theorem dX11_isEntry_26 : decode cX11_isEntry 26 = .ok (.ireturn, 1) := by decide +kernel
theorem dX10_get_0 : decode cX10_get 0 = .ok (.aload_n 0, 1) := by decide +kernel
theorem dX10_get_1 : decode cX10_get 1 = .ok (.getfield 14, 3) := by decide +kernel
theorem dX10_get_4 : decode cX10_get 4 = .ok (.iload_n 1, 1) := by decide +kernel
theorem dX10_get_5 : decode cX10_get 5 = .ok (.iload_n 2, 1) := by decide +kernel
theorem dX10_get_6 : decode cX10_get 6 = .ok (.invokestatic 20, 3) := by decide +kernel
theorem dX10_get_9 : decode cX10_get 9 = .ok (.invokevirtual 24, 3) := by decide +kernel
theorem dX10_get_12 : decode cX10_get 12 = .ok (.ireturn, 1) := by decide +kernel
theorem dX11_entry_0 : decode cX11_entry 0 = .ok (.iload_n 1, 1) := by decide +kernel
theorem dX11_entry_1 : decode cX11_entry 1 = .ok (.iload_n 2, 1) := by decide +kernel
theorem dX11_entry_2 : decode cX11_entry 2 = .ok (.invokestatic 133, 3) := by decide +kernel
theorem dX11_entry_5 : decode cX11_entry 5 = .ok (.ifCond .eq 10, 3) := by decide +kernel
theorem dX11_entry_8 : decode cX11_entry 8 = .ok (.iload_n 3, 1) := by decide +kernel
theorem dX11_entry_9 : decode cX11_entry 9 = .ok (.invokestatic 107, 3) := by decide +kernel
theorem dX11_entry_12 : decode cX11_entry 12 = .ok (.ifCond .ne 6, 3) := by decide +kernel
theorem dX11_entry_15 : decode cX11_entry 15 = .ok (.bipush (-2), 2) := by decide +kernel
theorem dX11_entry_17 : decode cX11_entry 17 = .ok (.ireturn, 1) := by decide +kernel
theorem dX11_entry_18 : decode cX11_entry 18 = .ok (.aload_n 0, 1) := by decide +kernel
theorem dX11_entry_19 : decode cX11_entry 19 = .ok (.getfield 37, 3) := by decide +kernel
theorem dX11_entry_22 : decode cX11_entry 22 = .ok (.iload_n 1, 1) := by decide +kernel
theorem dX11_entry_23 : decode cX11_entry 23 = .ok (.iload_n 2, 1) := by decide +kernel
theorem dX11_entry_24 : decode cX11_entry 24 = .ok (.invokevirtual 137, 3) := by decide +kernel
theorem dX11_entry_27 : decode cX11_entry 27 = .ok (.istore 4, 2) := by decide +kernel
theorem dX11_entry_29 : decode cX11_entry 29 = .ok (.aload_n 0, 1) := by decide +kernel
theorem dX11_entry_30 : decode cX11_entry 30 = .ok (.getfield 37, 3) := by decide +kernel
theorem dX11_entry_33 : decode cX11_entry 33 = .ok (.iload_n 1, 1) := by decide +kernel
theorem dX11_entry_34 : decode cX11_entry 34 = .ok (.iload_n 2, 1) := by decide +kernel
theorem dX11_entry_35 : decode cX11_entry 35 = .ok (.iload_n 3, 1) := by decide +kernel
theorem dX11_entry_36 : decode cX11_entry 36 = .ok (.invokevirtual 140, 3) := by decide +kernel
theorem dX11_entry_39 : decode cX11_entry 39 = .ok (.iload 4, 2) := by decide +kernel
theorem dX11_entry_41 : decode cX11_entry 41 = .ok (.ireturn, 1) := by decide +kernel
theorem dX10_isGoodHalf_0 : decode cX10_isGoodHalf 0 = .ok (.aload_n 0, 1) := by decide +kernel
theorem dX10_isGoodHalf_1 : decode cX10_isGoodHalf 1 = .ok (.iload_n 1, 1) := by decide +kernel
theorem dX10_isGoodHalf_2 : decode cX10_isGoodHalf 2 = .ok (.iload_n 2, 1) := by decide +kernel
theorem dX10_isGoodHalf_3 : decode cX10_isGoodHalf 3 = .ok (.iconst 2, 1) := by decide +kernel
theorem dX10_isGoodHalf_4 : decode cX10_isGoodHalf 4 = .ok (.iadd, 1) := by decide +kernel
theorem dX10_isGoodHalf_5 : decode cX10_isGoodHalf 5 = .ok (.invokevirtual 67, 3) := by decide +kernel
theorem dX10_isGoodHalf_8 : decode cX10_isGoodHalf 8 = .ok (.istore_n 3, 1) := by decide +kernel
theorem dX10_isGoodHalf_9 : decode cX10_isGoodHalf 9 = .ok (.aload_n 0, 1) := by decide +kernel
theorem dX10_isGoodHalf_10 : decode cX10_isGoodHalf 10 = .ok (.iload_n 1, 1) := by decide +kernel
theorem dX10_isGoodHalf_11 : decode cX10_isGoodHalf 11 = .ok (.iload_n 2, 1) := by decide +kernel
theorem dX10_isGoodHalf_12 : decode cX10_isGoodHalf 12 = .ok (.iconst 0, 1) := by decide +kernel
theorem dX10_isGoodHalf_13 : decode cX10_isGoodHalf 13 = .ok (.iadd, 1) := by decide +kernel
theorem dX10_isGoodHalf_14 : decode cX10_isGoodHalf 14 = .ok (.invokevirtual 67, 3) := by decide +kernel
theorem dX10_isGoodHalf_17 : decode cX10_isGoodHalf 17 = .ok (.tableswitch 83 0 3 #[31, 52, 52, 62], 31) := by decide +kernel
theorem dX10_isGoodHalf_48 : decode cX10_isGoodHalf 48 = .ok (.aload_n 0, 1) := by decide +kernel
theorem dX10_isGoodHalf_49 : decode cX10_isGoodHalf 49 = .ok (.iload_n 1, 1) := by decide +kernel
theorem dX10_isGoodHalf_50 : decode cX10_isGoodHalf 50 = .ok (.iload_n 2, 1) := by decide +kernel
theorem dX10_isGoodHalf_51 : decode cX10_isGoodHalf 51 = .ok (.iconst 1, 1) := by decide +kernel
theorem dX10_isGoodHalf_52 : decode cX10_isGoodHalf 52 = .ok (.iadd, 1) := by decide +kernel
theorem dX10_isGoodHalf_53 : decode cX10_isGoodHalf 53 = .ok (.invokevirtual 67, 3) := by decide +kernel
theorem dX10_isGoodHalf_56 : decode cX10_isGoodHalf 56 = .ok (.ifCond .ne 11, 3) := by decide +kernel
theorem dX10_isGoodHalf_59 : decode cX10_isGoodHalf 59 = .ok (.iload_n 3, 1) := by decide +kernel
theorem dX10_isGoodHalf_60 : decode cX10_isGoodHalf 60 = .ok (.ifCond .ne 7, 3) := by decide +kernel
theorem dX10_isGoodHalf_63 : decode cX10_isGoodHalf 63 = .ok (.iconst 1, 1) := by decide +kernel
theorem dX10_isGoodHalf_64 : decode cX10_isGoodHalf 64 = .ok (.goto 4, 3) := by decide +kernel
theorem dX10_isGoodHalf_67 : decode cX10_isGoodHalf 67 = .ok (.iconst 0, 1) := by decide +kernel
theorem dX10_isGoodHalf_68 : decode cX10_isGoodHalf 68 = .ok (.ireturn, 1) := by decide +kernel
theorem dX10_isGoodHalf_69 : decode cX10_isGoodHalf 69 = .ok (.iload_n 3, 1) := by decide +kernel
theorem dX10_isGoodHalf_70 : decode cX10_isGoodHalf 70 = .ok (.ifCond .ne 7, 3) := by decide +kernel
theorem dX10_isGoodHalf_73 : decode cX10_isGoodHalf 73 = .ok (.iconst 1, 1) := by decide +kernel
theorem dX10_isGoodHalf_74 : decode cX10_isGoodHalf 74 = .ok (.goto 4, 3) := by decide +kernel
theorem dX10_isGoodHalf_77 : decode cX10_isGoodHalf 77 = .ok (.iconst 0, 1) := by decide +kernel
theorem dX10_isGoodHalf_78 : decode cX10_isGoodHalf 78 = .ok (.ireturn, 1) := by decide +kernel
theorem dX10_isGoodHalf_79 : decode cX10_isGoodHalf 79 = .ok (.iload_n 3, 1) := by decide +kernel
theorem dX10_isGoodHalf_80 : decode cX10_isGoodHalf 80 = .ok (.iconst 2, 1) := by decide +kernel
theorem dX10_isGoodHalf_81 : decode cX10_isGoodHalf 81 = .ok (.aload_n 0, 1) := by decide +kernel
theorem dX10_isGoodHalf_82 : decode cX10_isGoodHalf 82 = .ok (.getfield 39, 3) := by decide +kernel
theorem dX10_isGoodHalf_85 : decode cX10_isGoodHalf 85 = .ok (.iadd, 1) := by decide +kernel
theorem dX10_isGoodHalf_86 : decode cX10_isGoodHalf 86 = .ok (.aload_n 0, 1) := by decide +kernel
theorem dX10_isGoodHalf_87 : decode cX10_isGoodHalf 87 = .ok (.getfield 43, 3) := by decide +kernel
theorem dX10_isGoodHalf_90 : decode cX10_isGoodHalf 90 = .ok (.iadd, 1) := by decide +kernel
theorem dX10_isGoodHalf_91 : decode cX10_isGoodHalf 91 = .ok (.if_icmp .ge 7, 3) := by decide +kernel
theorem dX10_isGoodHalf_94 : decode cX10_isGoodHalf 94 = .ok (.iconst 1, 1) := by decide +kernel
theorem dX10_isGoodHalf_95 : decode cX10_isGoodHalf 95 = .ok (.goto 4, 3) := by decide +kernel
theorem dX10_isGoodHalf_98 : decode cX10_isGoodHalf 98 = .ok (.iconst 0, 1) := by decide +kernel
theorem dX10_isGoodHalf_99 : decode cX10_isGoodHalf 99 = .ok (.ireturn, 1) := by decide +kernel
theorem dX10_isGoodHalf_100 : decode cX10_isGoodHalf 100 = .ok (.iconst 0, 1) := by decide +kernel
theorem dX10_isGoodHalf_101 : decode cX10_isGoodHalf 101 = .ok (.ireturn, 1) := by decide +kernel
theorem dX10_isGood_0 : decode cX10_isGood 0 = .ok (.iconst 0, 1) := by decide +kernel
theorem dX10_isGood_1 : decode cX10_isGood 1 = .ok (.istore_n 1, 1) := by decide +kernel
theorem dX10_isGood_2 : decode cX10_isGood 2 = .ok (.iload_n 1, 1) := by decide +kernel
theorem dX10_isGood_3 : decode cX10_isGood 3 = .ok (.sipush 256, 3) := by decide +kernel
theorem dX10_isGood_6 : decode cX10_isGood 6 = .ok (.if_icmp .ge 29, 3) := by decide +kernel
theorem dX10_isGood_9 : decode cX10_isGood 9 = .ok (.aload_n 0, 1) := by decide +kernel
theorem dX10_isGood_10 : decode cX10_isGood 10 = .ok (.iload_n 1, 1) := by decide +kernel
theorem dX10_isGood_11 : decode cX10_isGood 11 = .ok (.iconst 0, 1) := by decide +kernel
theorem dX10_isGood_12 : decode cX10_isGood 12 = .ok (.invokevirtual 63, 3) := by decide +kernel
theorem dX10_isGood_15 : decode cX10_isGood 15 = .ok (.ifCond .eq 12, 3) := by decide +kernel
theorem dX10_isGood_18 : decode cX10_isGood 18 = .ok (.aload_n 0, 1) := by decide +kernel
theorem dX10_isGood_19 : decode cX10_isGood 19 = .ok (.iload_n 1, 1) := by decide +kernel
theorem dX10_isGood_20 : decode cX10_isGood 20 = .ok (.iconst 3, 1) := by decide +kernel
theorem dX10_isGood_21 : decode cX10_isGood 21 = .ok (.invokevirtual 63, 3) := by decide +kernel
theorem dX10_isGood_24 : decode cX10_isGood 24 = .ok (.ifCond .ne 5, 3) := by decide +kernel
theorem dX10_isGood_27 : decode cX10_isGood 27 = .ok (.iconst 0, 1) := by decide +kernel
theorem dX10_isGood_28 : decode cX10_isGood 28 = .ok (.ireturn, 1) := by decide +kernel
theorem dX10_isGood_29 : decode cX10_isGood 29 = .ok (.iinc 1 1, 3) := by decide +kernel
theorem dX10_isGood_32 : decode cX10_isGood 32 = .ok (.goto (-30), 3) := by decide +kernel
theorem dX10_isGood_35 : decode cX10_isGood 35 = .ok (.iconst 1, 1) := by decide +kernel
theorem dX10_isGood_36 : decode cX10_isGood 36 = .ok (.ireturn, 1) := by decide +kernel
theorem dX11_startFile_0 : decode cX11_startFile 0 = .ok (.aload_n 0, 1) := by decide +kernel
theorem dX11_startFile_1 : decode cX11_startFile 1 = .ok (.invokevirtual 88, 3) := by decide +kernel
theorem dX11_startFile_4 : decode cX11_startFile 4 = .ok (.aload_n 0, 1) := by decide +kernel
theorem dX11_startFile_5 : decode cX11_startFile 5 = .ok (.ldc2_w 222, 3) := by decide +kernel
theorem dX11_startFile_8 : decode cX11_startFile 8 = .ok (.iconst 4, 1) := by decide +kernel
theorem dX11_startFile_9 : decode cX11_startFile 9 = .ok (.invokevirtual 91, 3) := by decide +kernel
theorem dX11_startFile_12 : decode cX11_startFile 12 = .ok (.aload_n 0, 1) := by decide +kernel
theorem dX11_startFile_13 : decode cX11_startFile 13 = .ok (.iload_n 1, 1) := by decide +kernel
theorem dX11_startFile_14 : decode cX11_startFile 14 = .ok (.invokevirtual 100, 3) := by decide +kernel
theorem dX11_startFile_17 : decode cX11_startFile 17 = .ok (.return_, 1) := by decide +kernel
theorem dX1_lay_0 : decode cX1_lay 0 = .ok (.aload_n 0, 1) := by decide +kernel
theorem dX1_lay_1 : decode cX1_lay 1 = .ok (.getfield 9, 3) := by decide +kernel
theorem dX1_lay_4 : decode cX1_lay 4 = .ok (.iconst (-1), 1) := by decide +kernel
theorem dX1_lay_5 : decode cX1_lay 5 = .ok (.invokestatic 18, 3) := by decide +kernel
theorem dX1_lay_8 : decode cX1_lay 8 = .ok (.sipush 255, 3) := by decide +kernel
theorem dX1_lay_11 : decode cX1_lay 11 = .ok (.istore_n 2, 1) := by decide +kernel
theorem dX1_lay_12 : decode cX1_lay 12 = .ok (.iload_n 2, 1) := by decide +kernel
theorem dX1_lay_13 : decode cX1_lay 13 = .ok (.ifCond .lt 42, 3) := by decide +kernel
theorem dX1_lay_16 : decode cX1_lay 16 = .ok (.aload_n 1, 1) := by decide +kernel
theorem dX1_lay_17 : decode cX1_lay 17 = .ok (.iload_n 2, 1) := by decide +kernel
theorem dX1_lay_18 : decode cX1_lay 18 = .ok (.iconst 1, 1) := by decide +kernel
theorem dX1_lay_19 : decode cX1_lay 19 = .ok (.invokevirtual 24, 3) := by decide +kernel
theorem dX1_lay_22 : decode cX1_lay 22 = .ok (.istore_n 3, 1) := by decide +kernel
theorem dX1_lay_23 : decode cX1_lay 23 = .ok (.iload_n 3, 1) := by decide +kernel
theorem dX1_lay_24 : decode cX1_lay 24 = .ok (.invokestatic 30, 3) := by decide +kernel
theorem dX1_lay_27 : decode cX1_lay 27 = .ok (.ifCond .eq 22, 3) := by decide +kernel
theorem dX1_lay_30 : decode cX1_lay 30 = .ok (.aload_n 0, 1) := by decide +kernel
theorem dX1_lay_31 : decode cX1_lay 31 = .ok (.getfield 15, 3) := by decide +kernel
theorem dX1_lay_34 : decode cX1_lay 34 = .ok (.iload_n 2, 1) := by decide +kernel
theorem dX1_lay_35 : decode cX1_lay 35 = .ok (.aload_n 0, 1) := by decide +kernel
theorem dX1_lay_36 : decode cX1_lay 36 = .ok (.getfield 9, 3) := by decide +kernel
theorem dX1_lay_39 : decode cX1_lay 39 = .ok (.iload_n 3, 1) := by decide +kernel
theorem dX1_lay_40 : decode cX1_lay 40 = .ok (.iaload, 1) := by decide +kernel
theorem dX1_lay_41 : decode cX1_lay 41 = .ok (.iastore, 1) := by decide +kernel
theorem dX1_lay_42 : decode cX1_lay 42 = .ok (.aload_n 0, 1) := by decide +kernel
theorem dX1_lay_43 : decode cX1_lay 43 = .ok (.getfield 9, 3) := by decide +kernel
theorem dX1_lay_46 : decode cX1_lay 46 = .ok (.iload_n 3, 1) := by decide +kernel
theorem dX1_lay_47 : decode cX1_lay 47 = .ok (.iload_n 2, 1) := by decide +kernel
theorem dX1_lay_48 : decode cX1_lay 48 = .ok (.iastore, 1) := by decide +kernel
theorem dX1_lay_49 : decode cX1_lay 49 = .ok (.iinc 2 (-1), 3) := by decide +kernel
theorem dX1_lay_52 : decode cX1_lay 52 = .ok (.goto (-40), 3) := by decide +kernel
theorem dX1_lay_55 : decode cX1_lay 55 = .ok (.return_, 1) := by decide +kernel
theorem dX3_lay_0 : decode cX3_lay 0 = .ok (.aload_n 0, 1) := by decide +kernel
theorem dX3_lay_1 : decode cX3_lay 1 = .ok (.getfield 14, 3) := by decide +kernel
theorem dX3_lay_4 : decode cX3_lay 4 = .ok (.invokevirtual 27, 3) := by decide +kernel
theorem dX3_lay_7 : decode cX3_lay 7 = .ok (.aload_n 0, 1) := by decide +kernel
theorem dX3_lay_8 : decode cX3_lay 8 = .ok (.getfield 14, 3) := by decide +kernel
theorem dX3_lay_11 : decode cX3_lay 11 = .ok (.aload_n 1, 1) := by decide +kernel
theorem dX3_lay_12 : decode cX3_lay 12 = .ok (.iload_n 2, 1) := by decide +kernel
theorem dX3_lay_13 : decode cX3_lay 13 = .ok (.iload_n 3, 1) := by decide +kernel
theorem dX3_lay_14 : decode cX3_lay 14 = .ok (.invokevirtual 30, 3) := by decide +kernel
theorem dX3_lay_17 : decode cX3_lay 17 = .ok (.aload_n 0, 1) := by decide +kernel
theorem dX3_lay_18 : decode cX3_lay 18 = .ok (.getfield 14, 3) := by decide +kernel
theorem dX3_lay_21 : decode cX3_lay 21 = .ok (.aload 4, 2) := by decide +kernel
theorem dX3_lay_23 : decode cX3_lay 23 = .ok (.iload 5, 2) := by decide +kernel
theorem dX3_lay_25 : decode cX3_lay 25 = .ok (.iload 6, 2) := by decide +kernel
theorem dX3_lay_27 : decode cX3_lay 27 = .ok (.invokevirtual 30, 3) := by decide +kernel
theorem dX3_lay_30 : decode cX3_lay 30 = .ok (.aload_n 0, 1) := by decide +kernel
theorem dX3_lay_31 : decode cX3_lay 31 = .ok (.getfield 20, 3) := by decide +kernel
theorem dX3_lay_34 : decode cX3_lay 34 = .ok (.iconst (-1), 1) := by decide +kernel
theorem dX3_lay_35 : decode cX3_lay 35 = .ok (.invokestatic 34, 3) := by decide +kernel
theorem dX3_lay_38 : decode cX3_lay 38 = .ok (.aload_n 0, 1) := by decide +kernel
theorem dX3_lay_39 : decode cX3_lay 39 = .ok (.iconst 0, 1) := by decide +kernel
theorem dX3_lay_40 : decode cX3_lay 40 = .ok (.putfield 40, 3) := by decide +kernel
theorem dX3_lay_43 : decode cX3_lay 43 = .ok (.return_, 1) := by decide +kernel
theorem dX6_clear_0 : decode cX6_clear 0 = .ok (.aload_n 0, 1) := by decide +kernel
theorem dX6_clear_1 : decode cX6_clear 1 = .ok (.iconst 0, 1) := by decide +kernel
theorem dX6_clear_2 : decode cX6_clear 2 = .ok (.putfield 21, 3) := by decide +kernel
theorem dX6_clear_5 : decode cX6_clear 5 = .ok (.return_, 1) := by decide +kernel
theorem dX3_end_0 : decode cX3_end 0 = .ok (.aload_n 0, 1) := by decide +kernel
theorem dX3_end_1 : decode cX3_end 1 = .ok (.getfield 14, 3) := by decide +kernel
theorem dX3_end_4 : decode cX3_end 4 = .ok (.invokevirtual 48, 3) := by decide +kernel
theorem dX3_end_7 : decode cX3_end 7 = .ok (.ireturn, 1) := by decide +kernel
theorem dX3_chainOf_0 : decode cX3_chainOf 0 = .ok (.aload_n 0, 1) := by decide +kernel
theorem dX3_chainOf_1 : decode cX3_chainOf 1 = .ok (.getfield 14, 3) := by decide +kernel
theorem dX3_chainOf_4 : decode cX3_chainOf 4 = .ok (.iload_n 1, 1) := by decide +kernel
theorem dX3_chainOf_5 : decode cX3_chainOf 5 = .ok (.invokevirtual 44, 3) := by decide +kernel
theorem dX3_chainOf_8 : decode cX3_chainOf 8 = .ok (.bipush 24, 2) := by decide +kernel
theorem dX3_chainOf_10 : decode cX3_chainOf 10 = .ok (.ishl, 1) := by decide +kernel
theorem dX3_chainOf_11 : decode cX3_chainOf 11 = .ok (.aload_n 0, 1) := by decide +kernel
theorem dX3_chainOf_12 : decode cX3_chainOf 12 = .ok (.getfield 14, 3) := by decide +kernel
theorem dX3_chainOf_15 : decode cX3_chainOf 15 = .ok (.iload_n 1, 1) := by decide +kernel
theorem dX3_chainOf_16 : decode cX3_chainOf 16 = .ok (.iconst 1, 1) := by decide +kernel
theorem dX3_chainOf_17 : decode cX3_chainOf 17 = .ok (.iadd, 1) := by decide +kernel
theorem dX3_chainOf_18 : decode cX3_chainOf 18 = .ok (.invokevirtual 44, 3) := by decide +kernel
theorem dX3_chainOf_21 : decode cX3_chainOf 21 = .ok (.bipush 16, 2) := by decide +kernel
theorem dX3_chainOf_23 : decode cX3_chainOf 23 = .ok (.ishl, 1) := by decide +kernel
theorem dX3_chainOf_24 : decode cX3_chainOf 24 = .ok (.ior, 1) := by decide +kernel
theorem dX3_chainOf_25 : decode cX3_chainOf 25 = .ok (.aload_n 0, 1) := by decide +kernel
theorem dX3_chainOf_26 : decode cX3_chainOf 26 = .ok (.getfield 14, 3) := by decide +kernel
theorem dX3_chainOf_29 : decode cX3_chainOf 29 = .ok (.iload_n 1, 1) := by decide +kernel
theorem dX3_chainOf_30 : decode cX3_chainOf 30 = .ok (.iconst 2, 1) := by decide +kernel
theorem dX3_chainOf_31 : decode cX3_chainOf 31 = .ok (.iadd, 1) := by decide +kernel
theorem dX3_chainOf_32 : decode cX3_chainOf 32 = .ok (.invokevirtual 44, 3) := by decide +kernel
theorem dX3_chainOf_35 : decode cX3_chainOf 35 = .ok (.bipush 8, 2) := by decide +kernel
theorem dX3_chainOf_37 : decode cX3_chainOf 37 = .ok (.ishl, 1) := by decide +kernel
theorem dX3_chainOf_38 : decode cX3_chainOf 38 = .ok (.ior, 1) := by decide +kernel
theorem dX3_chainOf_39 : decode cX3_chainOf 39 = .ok (.aload_n 0, 1) := by decide +kernel
theorem dX3_chainOf_40 : decode cX3_chainOf 40 = .ok (.getfield 14, 3) := by decide +kernel
theorem dX3_chainOf_43 : decode cX3_chainOf 43 = .ok (.iload_n 1, 1) := by decide +kernel
theorem dX3_chainOf_44 : decode cX3_chainOf 44 = .ok (.iconst 3, 1) := by decide +kernel
theorem dX3_chainOf_45 : decode cX3_chainOf 45 = .ok (.iadd, 1) := by decide +kernel
theorem dX3_chainOf_46 : decode cX3_chainOf 46 = .ok (.invokevirtual 44, 3) := by decide +kernel
theorem dX3_chainOf_49 : decode cX3_chainOf 49 = .ok (.ior, 1) := by decide +kernel
theorem dX3_chainOf_50 : decode cX3_chainOf 50 = .ok (.istore_n 2, 1) := by decide +kernel
theorem dX3_chainOf_51 : decode cX3_chainOf 51 = .ok (.iload_n 2, 1) := by decide +kernel
theorem dX3_chainOf_52 : decode cX3_chainOf 52 = .ok (.ldc 52, 2) := by decide +kernel
theorem dX3_chainOf_54 : decode cX3_chainOf 54 = .ok (.imul, 1) := by decide +kernel
theorem dX3_chainOf_55 : decode cX3_chainOf 55 = .ok (.bipush 16, 2) := by decide +kernel
theorem dX3_chainOf_57 : decode cX3_chainOf 57 = .ok (.iushr, 1) := by decide +kernel
theorem dX3_chainOf_58 : decode cX3_chainOf 58 = .ok (.sipush 1024, 3) := by decide +kernel
theorem dX3_chainOf_61 : decode cX3_chainOf 61 = .ok (.irem, 1) := by decide +kernel
theorem dX3_chainOf_62 : decode cX3_chainOf 62 = .ok (.ireturn, 1) := by decide +kernel
theorem dX3_enterUpTo_0 : decode cX3_enterUpTo 0 = .ok (.aload_n 0, 1) := by decide +kernel
theorem dX3_enterUpTo_1 : decode cX3_enterUpTo 1 = .ok (.getfield 40, 3) := by decide +kernel
theorem dX3_enterUpTo_4 : decode cX3_enterUpTo 4 = .ok (.iload_n 1, 1) := by decide +kernel
theorem dX3_enterUpTo_5 : decode cX3_enterUpTo 5 = .ok (.if_icmp .ge 62, 3) := by decide +kernel
theorem dX3_enterUpTo_8 : decode cX3_enterUpTo 8 = .ok (.aload_n 0, 1) := by decide +kernel
theorem dX3_enterUpTo_9 : decode cX3_enterUpTo 9 = .ok (.getfield 40, 3) := by decide +kernel
theorem dX3_enterUpTo_12 : decode cX3_enterUpTo 12 = .ok (.aload_n 0, 1) := by decide +kernel
theorem dX3_enterUpTo_13 : decode cX3_enterUpTo 13 = .ok (.getfield 24, 3) := by decide +kernel
theorem dX3_enterUpTo_16 : decode cX3_enterUpTo 16 = .ok (.arraylength, 1) := by decide +kernel
theorem dX3_enterUpTo_17 : decode cX3_enterUpTo 17 = .ok (.if_icmp .ge 50, 3) := by decide +kernel
theorem dX3_enterUpTo_20 : decode cX3_enterUpTo 20 = .ok (.aload_n 0, 1) := by decide +kernel
theorem dX3_enterUpTo_21 : decode cX3_enterUpTo 21 = .ok (.aload_n 0, 1) := by decide +kernel
theorem dX3_enterUpTo_22 : decode cX3_enterUpTo 22 = .ok (.getfield 40, 3) := by decide +kernel
theorem dX3_enterUpTo_25 : decode cX3_enterUpTo 25 = .ok (.invokevirtual 53, 3) := by decide +kernel
theorem dX3_enterUpTo_28 : decode cX3_enterUpTo 28 = .ok (.istore_n 2, 1) := by decide +kernel
theorem dX3_enterUpTo_29 : decode cX3_enterUpTo 29 = .ok (.aload_n 0, 1) := by decide +kernel
theorem dX3_enterUpTo_30 : decode cX3_enterUpTo 30 = .ok (.getfield 24, 3) := by decide +kernel
theorem dX3_enterUpTo_33 : decode cX3_enterUpTo 33 = .ok (.aload_n 0, 1) := by decide +kernel
theorem dX3_enterUpTo_34 : decode cX3_enterUpTo 34 = .ok (.getfield 40, 3) := by decide +kernel
theorem dX3_enterUpTo_37 : decode cX3_enterUpTo 37 = .ok (.aload_n 0, 1) := by decide +kernel
theorem dX3_enterUpTo_38 : decode cX3_enterUpTo 38 = .ok (.getfield 20, 3) := by decide +kernel
theorem dX3_enterUpTo_41 : decode cX3_enterUpTo 41 = .ok (.iload_n 2, 1) := by decide +kernel
theorem dX3_enterUpTo_42 : decode cX3_enterUpTo 42 = .ok (.iaload, 1) := by decide +kernel
theorem dX3_enterUpTo_43 : decode cX3_enterUpTo 43 = .ok (.iastore, 1) := by decide +kernel
theorem dX3_enterUpTo_44 : decode cX3_enterUpTo 44 = .ok (.aload_n 0, 1) := by decide +kernel
theorem dX3_enterUpTo_45 : decode cX3_enterUpTo 45 = .ok (.getfield 20, 3) := by decide +kernel
theorem dX3_enterUpTo_48 : decode cX3_enterUpTo 48 = .ok (.iload_n 2, 1) := by decide +kernel
theorem dX3_enterUpTo_49 : decode cX3_enterUpTo 49 = .ok (.aload_n 0, 1) := by decide +kernel
theorem dX3_enterUpTo_50 : decode cX3_enterUpTo 50 = .ok (.getfield 40, 3) := by decide +kernel
theorem dX3_enterUpTo_53 : decode cX3_enterUpTo 53 = .ok (.iastore, 1) := by decide +kernel
theorem dX3_enterUpTo_54 : decode cX3_enterUpTo 54 = .ok (.aload_n 0, 1) := by decide +kernel
theorem dX3_enterUpTo_55 : decode cX3_enterUpTo 55 = .ok (.dup, 1) := by decide +kernel
theorem dX3_enterUpTo_56 : decode cX3_enterUpTo 56 = .ok (.getfield 40, 3) := by decide +kernel
theorem dX3_enterUpTo_59 : decode cX3_enterUpTo 59 = .ok (.iconst 1, 1) := by decide +kernel
theorem dX3_enterUpTo_60 : decode cX3_enterUpTo 60 = .ok (.iadd, 1) := by decide +kernel
theorem dX3_enterUpTo_61 : decode cX3_enterUpTo 61 = .ok (.putfield 40, 3) := by decide +kernel
theorem dX3_enterUpTo_64 : decode cX3_enterUpTo 64 = .ok (.goto (-64), 3) := by decide +kernel
theorem dX3_enterUpTo_67 : decode cX3_enterUpTo 67 = .ok (.return_, 1) := by decide +kernel
theorem dX3_sameLength_0 : decode cX3_sameLength 0 = .ok (.iconst 0, 1) := by decide +kernel
theorem dX3_sameLength_1 : decode cX3_sameLength 1 = .ok (.istore_n 3, 1) := by decide +kernel
theorem dX3_sameLength_2 : decode cX3_sameLength 2 = .ok (.iload_n 2, 1) := by decide +kernel
theorem dX3_sameLength_3 : decode cX3_sameLength 3 = .ok (.iload_n 3, 1) := by decide +kernel
theorem dX3_sameLength_4 : decode cX3_sameLength 4 = .ok (.iadd, 1) := by decide +kernel
theorem dX3_sameLength_5 : decode cX3_sameLength 5 = .ok (.aload_n 0, 1) := by decide +kernel
theorem dX3_sameLength_6 : decode cX3_sameLength 6 = .ok (.getfield 14, 3) := by decide +kernel
theorem dX3_sameLength_9 : decode cX3_sameLength 9 = .ok (.invokevirtual 48, 3) := by decide +kernel
theorem dX3_sameLength_12 : decode cX3_sameLength 12 = .ok (.if_icmp .ge 32, 3) := by decide +kernel
theorem dX3_sameLength_15 : decode cX3_sameLength 15 = .ok (.aload_n 0, 1) := by decide +kernel
theorem dX3_sameLength_16 : decode cX3_sameLength 16 = .ok (.getfield 14, 3) := by decide +kernel
theorem dX3_sameLength_19 : decode cX3_sameLength 19 = .ok (.iload_n 1, 1) := by decide +kernel
theorem dX3_sameLength_20 : decode cX3_sameLength 20 = .ok (.iload_n 3, 1) := by decide +kernel
theorem dX3_sameLength_21 : decode cX3_sameLength 21 = .ok (.iadd, 1) := by decide +kernel
theorem dX3_sameLength_22 : decode cX3_sameLength 22 = .ok (.invokevirtual 44, 3) := by decide +kernel
theorem dX3_sameLength_25 : decode cX3_sameLength 25 = .ok (.aload_n 0, 1) := by decide +kernel
theorem dX3_sameLength_26 : decode cX3_sameLength 26 = .ok (.getfield 14, 3) := by decide +kernel
theorem dX3_sameLength_29 : decode cX3_sameLength 29 = .ok (.iload_n 2, 1) := by decide +kernel
theorem dX3_sameLength_30 : decode cX3_sameLength 30 = .ok (.iload_n 3, 1) := by decide +kernel
theorem dX3_sameLength_31 : decode cX3_sameLength 31 = .ok (.iadd, 1) := by decide +kernel
theorem dX3_sameLength_32 : decode cX3_sameLength 32 = .ok (.invokevirtual 44, 3) := by decide +kernel
theorem dX3_sameLength_35 : decode cX3_sameLength 35 = .ok (.if_icmp .ne 9, 3) := by decide +kernel
theorem dX3_sameLength_38 : decode cX3_sameLength 38 = .ok (.iinc 3 1, 3) := by decide +kernel
theorem dX3_sameLength_41 : decode cX3_sameLength 41 = .ok (.goto (-39), 3) := by decide +kernel
theorem dX3_sameLength_44 : decode cX3_sameLength 44 = .ok (.iload_n 3, 1) := by decide +kernel
theorem dX3_sameLength_45 : decode cX3_sameLength 45 = .ok (.ireturn, 1) := by decide +kernel
theorem dX3_search_0 : decode cX3_search 0 = .ok (.aload_n 0, 1) := by decide +kernel
theorem dX3_search_1 : decode cX3_search 1 = .ok (.iconst (-1), 1) := by decide +kernel
theorem dX3_search_2 : decode cX3_search 2 = .ok (.putfield 56, 3) := by decide +kernel
theorem dX3_search_5 : decode cX3_search 5 = .ok (.aload_n 0, 1) := by decide +kernel
theorem dX3_search_6 : decode cX3_search 6 = .ok (.iconst 0, 1) := by decide +kernel
theorem dX3_search_7 : decode cX3_search 7 = .ok (.putfield 59, 3) := by decide +kernel
theorem dX3_search_10 : decode cX3_search 10 = .ok (.iload_n 1, 1) := by decide +kernel
theorem dX3_search_11 : decode cX3_search 11 = .ok (.ifCond .lt 16, 3) := by decide +kernel
theorem dX3_search_14 : decode cX3_search 14 = .ok (.iload_n 1, 1) := by decide +kernel
theorem dX3_search_15 : decode cX3_search 15 = .ok (.iconst 4, 1) := by decide +kernel
theorem dX3_search_16 : decode cX3_search 16 = .ok (.iadd, 1) := by decide +kernel
theorem dX3_search_17 : decode cX3_search 17 = .ok (.aload_n 0, 1) := by decide +kernel
theorem dX3_search_18 : decode cX3_search 18 = .ok (.getfield 14, 3) := by decide +kernel
theorem dX3_search_21 : decode cX3_search 21 = .ok (.invokevirtual 48, 3) := by decide +kernel
theorem dX3_search_24 : decode cX3_search 24 = .ok (.if_icmp .le 4, 3) := by decide +kernel
theorem dX3_search_27 : decode cX3_search 27 = .ok (.return_, 1) := by decide +kernel
theorem dX3_search_28 : decode cX3_search 28 = .ok (.aload_n 0, 1) := by decide +kernel
theorem dX3_search_29 : decode cX3_search 29 = .ok (.iload_n 1, 1) := by decide +kernel
theorem dX3_search_30 : decode cX3_search 30 = .ok (.invokevirtual 62, 3) := by decide +kernel
theorem dX3_search_33 : decode cX3_search 33 = .ok (.aload_n 0, 1) := by decide +kernel
theorem dX3_search_34 : decode cX3_search 34 = .ok (.getfield 20, 3) := by decide +kernel
theorem dX3_search_37 : decode cX3_search 37 = .ok (.aload_n 0, 1) := by decide +kernel
theorem dX3_search_38 : decode cX3_search 38 = .ok (.iload_n 1, 1) := by decide +kernel
theorem dX3_search_39 : decode cX3_search 39 = .ok (.invokevirtual 53, 3) := by decide +kernel
theorem dX3_search_42 : decode cX3_search 42 = .ok (.iaload, 1) := by decide +kernel
theorem dX3_search_43 : decode cX3_search 43 = .ok (.istore_n 2, 1) := by decide +kernel
theorem dX3_search_44 : decode cX3_search 44 = .ok (.iconst 0, 1) := by decide +kernel
theorem dX3_search_45 : decode cX3_search 45 = .ok (.istore_n 3, 1) := by decide +kernel
theorem dX3_search_46 : decode cX3_search 46 = .ok (.iconst 0, 1) := by decide +kernel
theorem dX3_search_47 : decode cX3_search 47 = .ok (.istore 4, 2) := by decide +kernel
theorem dX3_search_49 : decode cX3_search 49 = .ok (.iload 4, 2) := by decide +kernel
theorem dX3_search_51 : decode cX3_search 51 = .ok (.aload_n 0, 1) := by decide +kernel
theorem dX3_search_52 : decode cX3_search 52 = .ok (.getfield 24, 3) := by decide +kernel
theorem dX3_search_55 : decode cX3_search 55 = .ok (.arraylength, 1) := by decide +kernel
theorem dX3_search_56 : decode cX3_search 56 = .ok (.if_icmp .ge 78, 3) := by decide +kernel
theorem dX3_search_59 : decode cX3_search 59 = .ok (.iload_n 2, 1) := by decide +kernel
theorem dX3_search_60 : decode cX3_search 60 = .ok (.ifCond .lt 74, 3) := by decide +kernel
theorem dX3_search_63 : decode cX3_search 63 = .ok (.iload_n 2, 1) := by decide +kernel
theorem dX3_search_64 : decode cX3_search 64 = .ok (.aload_n 0, 1) := by decide +kernel
theorem dX3_search_65 : decode cX3_search 65 = .ok (.getfield 24, 3) := by decide +kernel
theorem dX3_search_68 : decode cX3_search 68 = .ok (.arraylength, 1) := by decide +kernel
theorem dX3_search_69 : decode cX3_search 69 = .ok (.if_icmp .ge 65, 3) := by decide +kernel
theorem dX3_search_72 : decode cX3_search 72 = .ok (.iload_n 3, 1) := by decide +kernel
theorem dX3_search_73 : decode cX3_search 73 = .ok (.bipush 16, 2) := by decide +kernel
theorem dX3_search_75 : decode cX3_search 75 = .ok (.if_icmp .ge 59, 3) := by decide +kernel
theorem dX3_search_78 : decode cX3_search 78 = .ok (.aload_n 0, 1) := by decide +kernel
theorem dX3_search_79 : decode cX3_search 79 = .ok (.iload_n 2, 1) := by decide +kernel
theorem dX3_search_80 : decode cX3_search 80 = .ok (.iload_n 1, 1) := by decide +kernel
theorem dX3_search_81 : decode cX3_search 81 = .ok (.invokevirtual 65, 3) := by decide +kernel
theorem dX3_search_84 : decode cX3_search 84 = .ok (.istore 5, 2) := by decide +kernel
theorem dX3_search_86 : decode cX3_search 86 = .ok (.iload 5, 2) := by decide +kernel
theorem dX3_search_88 : decode cX3_search 88 = .ok (.iconst 4, 1) := by decide +kernel
theorem dX3_search_89 : decode cX3_search 89 = .ok (.if_icmp .lt 6, 3) := by decide +kernel
theorem dX3_search_92 : decode cX3_search 92 = .ok (.iinc 3 1, 3) := by decide +kernel
theorem dX3_search_95 : decode cX3_search 95 = .ok (.iload 5, 2) := by decide +kernel
theorem dX3_search_97 : decode cX3_search 97 = .ok (.iconst 4, 1) := by decide +kernel
theorem dX3_search_98 : decode cX3_search 98 = .ok (.if_icmp .lt 23, 3) := by decide +kernel
theorem dX3_search_101 : decode cX3_search 101 = .ok (.iload 5, 2) := by decide +kernel
theorem dX3_search_103 : decode cX3_search 103 = .ok (.aload_n 0, 1) := by decide +kernel
theorem dX3_search_104 : decode cX3_search 104 = .ok (.getfield 59, 3) := by decide +kernel
theorem dX3_search_107 : decode cX3_search 107 = .ok (.if_icmp .le 14, 3) := by decide +kernel
theorem dX3_search_110 : decode cX3_search 110 = .ok (.aload_n 0, 1) := by decide +kernel
theorem dX3_search_111 : decode cX3_search 111 = .ok (.iload 5, 2) := by decide +kernel
theorem dX3_search_113 : decode cX3_search 113 = .ok (.putfield 59, 3) := by decide +kernel
theorem dX3_search_116 : decode cX3_search 116 = .ok (.aload_n 0, 1) := by decide +kernel
theorem dX3_search_117 : decode cX3_search 117 = .ok (.iload_n 2, 1) := by decide +kernel
theorem dX3_search_118 : decode cX3_search 118 = .ok (.putfield 56, 3) := by decide +kernel
theorem dX3_search_121 : decode cX3_search 121 = .ok (.aload_n 0, 1) := by decide +kernel
theorem dX3_search_122 : decode cX3_search 122 = .ok (.getfield 24, 3) := by decide +kernel
theorem dX3_search_125 : decode cX3_search 125 = .ok (.iload_n 2, 1) := by decide +kernel
theorem dX3_search_126 : decode cX3_search 126 = .ok (.iaload, 1) := by decide +kernel
theorem dX3_search_127 : decode cX3_search 127 = .ok (.istore_n 2, 1) := by decide +kernel
theorem dX3_search_128 : decode cX3_search 128 = .ok (.iinc 4 1, 3) := by decide +kernel
theorem dX3_search_131 : decode cX3_search 131 = .ok (.goto (-82), 3) := by decide +kernel
theorem dX3_search_134 : decode cX3_search 134 = .ok (.return_, 1) := by decide +kernel
theorem dX3_runLength_0 : decode cX3_runLength 0 = .ok (.iconst 0, 1) := by decide +kernel
theorem dX3_runLength_1 : decode cX3_runLength 1 = .ok (.istore_n 2, 1) := by decide +kernel
theorem dX3_runLength_2 : decode cX3_runLength 2 = .ok (.iload_n 1, 1) := by decide +kernel
theorem dX3_runLength_3 : decode cX3_runLength 3 = .ok (.iload_n 2, 1) := by decide +kernel
theorem dX3_runLength_4 : decode cX3_runLength 4 = .ok (.iadd, 1) := by decide +kernel
theorem dX3_runLength_5 : decode cX3_runLength 5 = .ok (.aload_n 0, 1) := by decide +kernel
theorem dX3_runLength_6 : decode cX3_runLength 6 = .ok (.getfield 14, 3) := by decide +kernel
theorem dX3_runLength_9 : decode cX3_runLength 9 = .ok (.invokevirtual 48, 3) := by decide +kernel
theorem dX3_runLength_12 : decode cX3_runLength 12 = .ok (.if_icmp .ge 30, 3) := by decide +kernel
theorem dX3_runLength_15 : decode cX3_runLength 15 = .ok (.aload_n 0, 1) := by decide +kernel
theorem dX3_runLength_16 : decode cX3_runLength 16 = .ok (.getfield 14, 3) := by decide +kernel
theorem dX3_runLength_19 : decode cX3_runLength 19 = .ok (.iload_n 1, 1) := by decide +kernel
theorem dX3_runLength_20 : decode cX3_runLength 20 = .ok (.iload_n 2, 1) := by decide +kernel
theorem dX3_runLength_21 : decode cX3_runLength 21 = .ok (.iadd, 1) := by decide +kernel
theorem dX3_runLength_22 : decode cX3_runLength 22 = .ok (.invokevirtual 44, 3) := by decide +kernel
theorem dX3_runLength_25 : decode cX3_runLength 25 = .ok (.aload_n 0, 1) := by decide +kernel
theorem dX3_runLength_26 : decode cX3_runLength 26 = .ok (.getfield 14, 3) := by decide +kernel
theorem dX3_runLength_29 : decode cX3_runLength 29 = .ok (.iload_n 1, 1) := by decide +kernel
theorem dX3_runLength_30 : decode cX3_runLength 30 = .ok (.invokevirtual 44, 3) := by decide +kernel
theorem dX3_runLength_33 : decode cX3_runLength 33 = .ok (.if_icmp .ne 9, 3) := by decide +kernel
theorem dX3_runLength_36 : decode cX3_runLength 36 = .ok (.iinc 2 1, 3) := by decide +kernel
theorem dX3_runLength_39 : decode cX3_runLength 39 = .ok (.goto (-37), 3) := by decide +kernel
theorem dX3_runLength_42 : decode cX3_runLength 42 = .ok (.iload_n 2, 1) := by decide +kernel
theorem dX3_runLength_43 : decode cX3_runLength 43 = .ok (.ireturn, 1) := by decide +kernel
theorem dX6_push_0 : decode cX6_push 0 = .ok (.aload_n 0, 1) := by decide +kernel
theorem dX6_push_1 : decode cX6_push 1 = .ok (.getfield 21, 3) := by decide +kernel
theorem dX6_push_4 : decode cX6_push 4 = .ok (.sipush 1024, 3) := by decide +kernel
theorem dX6_push_7 : decode cX6_push 7 = .ok (.if_icmp .ge 43, 3) := by decide +kernel
theorem dX6_push_10 : decode cX6_push 10 = .ok (.aload_n 0, 1) := by decide +kernel
theorem dX6_push_11 : decode cX6_push 11 = .ok (.getfield 9, 3) := by decide +kernel
theorem dX6_push_14 : decode cX6_push 14 = .ok (.aload_n 0, 1) := by decide +kernel
theorem dX6_push_15 : decode cX6_push 15 = .ok (.getfield 21, 3) := by decide +kernel
theorem dX6_push_18 : decode cX6_push 18 = .ok (.iload_n 1, 1) := by decide +kernel
theorem dX6_push_19 : decode cX6_push 19 = .ok (.iastore, 1) := by decide +kernel
theorem dX6_push_20 : decode cX6_push 20 = .ok (.aload_n 0, 1) := by decide +kernel
theorem dX6_push_21 : decode cX6_push 21 = .ok (.getfield 15, 3) := by decide +kernel
theorem dX6_push_24 : decode cX6_push 24 = .ok (.aload_n 0, 1) := by decide +kernel
theorem dX6_push_25 : decode cX6_push 25 = .ok (.getfield 21, 3) := by decide +kernel
theorem dX6_push_28 : decode cX6_push 28 = .ok (.iload_n 2, 1) := by decide +kernel
theorem dX6_push_29 : decode cX6_push 29 = .ok (.iastore, 1) := by decide +kernel
theorem dX6_push_30 : decode cX6_push 30 = .ok (.aload_n 0, 1) := by decide +kernel
theorem dX6_push_31 : decode cX6_push 31 = .ok (.getfield 18, 3) := by decide +kernel
theorem dX6_push_34 : decode cX6_push 34 = .ok (.aload_n 0, 1) := by decide +kernel
theorem dX6_push_35 : decode cX6_push 35 = .ok (.getfield 21, 3) := by decide +kernel
theorem dX6_push_38 : decode cX6_push 38 = .ok (.iload_n 3, 1) := by decide +kernel
theorem dX6_push_39 : decode cX6_push 39 = .ok (.iastore, 1) := by decide +kernel
theorem dX6_push_40 : decode cX6_push 40 = .ok (.aload_n 0, 1) := by decide +kernel
theorem dX6_push_41 : decode cX6_push 41 = .ok (.dup, 1) := by decide +kernel
theorem dX6_push_42 : decode cX6_push 42 = .ok (.getfield 21, 3) := by decide +kernel
theorem dX6_push_45 : decode cX6_push 45 = .ok (.iconst 1, 1) := by decide +kernel
theorem dX6_push_46 : decode cX6_push 46 = .ok (.iadd, 1) := by decide +kernel
theorem dX6_push_47 : decode cX6_push 47 = .ok (.putfield 21, 3) := by decide +kernel
theorem dX6_push_50 : decode cX6_push 50 = .ok (.return_, 1) := by decide +kernel
theorem dX3_at_0 : decode cX3_at 0 = .ok (.aload_n 0, 1) := by decide +kernel
theorem dX3_at_1 : decode cX3_at 1 = .ok (.getfield 14, 3) := by decide +kernel
theorem dX3_at_4 : decode cX3_at 4 = .ok (.iload_n 1, 1) := by decide +kernel
theorem dX3_at_5 : decode cX3_at 5 = .ok (.invokevirtual 44, 3) := by decide +kernel
theorem dX3_at_8 : decode cX3_at 8 = .ok (.ireturn, 1) := by decide +kernel
theorem dX11_bigLength_0 : decode cX11_bigLength 0 = .ok (.iconst 1, 1) := by decide +kernel
theorem dX11_bigLength_1 : decode cX11_bigLength 1 = .ok (.istore_n 2, 1) := by decide +kernel
theorem dX11_bigLength_2 : decode cX11_bigLength 2 = .ok (.lload_n 0, 1) := by decide +kernel
theorem dX11_bigLength_3 : decode cX11_bigLength 3 = .ok (.bipush 7, 2) := by decide +kernel
theorem dX11_bigLength_5 : decode cX11_bigLength 5 = .ok (.lushr, 1) := by decide +kernel
theorem dX11_bigLength_6 : decode cX11_bigLength 6 = .ok (.lstore_n 3, 1) := by decide +kernel
theorem dX11_bigLength_7 : decode cX11_bigLength 7 = .ok (.lload_n 3, 1) := by decide +kernel
theorem dX11_bigLength_8 : decode cX11_bigLength 8 = .ok (.lconst 0, 1) := by decide +kernel
theorem dX11_bigLength_9 : decode cX11_bigLength 9 = .ok (.lcmp, 1) := by decide +kernel
theorem dX11_bigLength_10 : decode cX11_bigLength 10 = .ok (.ifCond .eq 19, 3) := by decide +kernel
theorem dX11_bigLength_13 : decode cX11_bigLength 13 = .ok (.iload_n 2, 1) := by decide +kernel
theorem dX11_bigLength_14 : decode cX11_bigLength 14 = .ok (.iconst 5, 1) := by decide +kernel
theorem dX11_bigLength_15 : decode cX11_bigLength 15 = .ok (.if_icmp .ge 14, 3) := by decide +kernel
theorem dX11_bigLength_18 : decode cX11_bigLength 18 = .ok (.iinc 2 1, 3) := by decide +kernel
theorem dX11_bigLength_21 : decode cX11_bigLength 21 = .ok (.lload_n 3, 1) := by decide +kernel
theorem dX11_bigLength_22 : decode cX11_bigLength 22 = .ok (.bipush 7, 2) := by decide +kernel
theorem dX11_bigLength_24 : decode cX11_bigLength 24 = .ok (.lushr, 1) := by decide +kernel
theorem dX11_bigLength_25 : decode cX11_bigLength 25 = .ok (.lstore_n 3, 1) := by decide +kernel
theorem dX11_bigLength_26 : decode cX11_bigLength 26 = .ok (.goto (-19), 3) := by decide +kernel
theorem dX11_bigLength_29 : decode cX11_bigLength 29 = .ok (.iload_n 2, 1) := by decide +kernel
theorem dX11_bigLength_30 : decode cX11_bigLength 30 = .ok (.ireturn, 1) := by decide +kernel
theorem dX0_nearAt_0 : decode cX0_nearAt 0 = .ok (.iload_n 1, 1) := by decide +kernel
theorem dX0_nearAt_1 : decode cX0_nearAt 1 = .ok (.ifCond .lt 20, 3) := by decide +kernel
theorem dX0_nearAt_4 : decode cX0_nearAt 4 = .ok (.iload_n 1, 1) := by decide +kernel
theorem dX0_nearAt_5 : decode cX0_nearAt 5 = .ok (.aload_n 0, 1) := by decide +kernel
theorem dX0_nearAt_6 : decode cX0_nearAt 6 = .ok (.getfield 27, 3) := by decide +kernel
theorem dX0_nearAt_9 : decode cX0_nearAt 9 = .ok (.if_icmp .ge 12, 3) := by decide +kernel
theorem dX0_nearAt_12 : decode cX0_nearAt 12 = .ok (.aload_n 0, 1) := by decide +kernel
theorem dX0_nearAt_13 : decode cX0_nearAt 13 = .ok (.getfield 15, 3) := by decide +kernel
theorem dX0_nearAt_16 : decode cX0_nearAt 16 = .ok (.iload_n 1, 1) := by decide +kernel
theorem dX0_nearAt_17 : decode cX0_nearAt 17 = .ok (.iaload, 1) := by decide +kernel
theorem dX0_nearAt_18 : decode cX0_nearAt 18 = .ok (.goto 4, 3) := by decide +kernel
theorem dX0_nearAt_21 : decode cX0_nearAt 21 = .ok (.iconst 0, 1) := by decide +kernel
theorem dX0_nearAt_22 : decode cX0_nearAt 22 = .ok (.ireturn, 1) := by decide +kernel
theorem dX0_sameAt_0 : decode cX0_sameAt 0 = .ok (.iload_n 1, 1) := by decide +kernel
theorem dX0_sameAt_1 : decode cX0_sameAt 1 = .ok (.ifCond .lt 20, 3) := by decide +kernel
theorem dX0_sameAt_4 : decode cX0_sameAt 4 = .ok (.iload_n 1, 1) := by decide +kernel
theorem dX0_sameAt_5 : decode cX0_sameAt 5 = .ok (.aload_n 0, 1) := by decide +kernel
theorem dX0_sameAt_6 : decode cX0_sameAt 6 = .ok (.getfield 31, 3) := by decide +kernel
theorem dX0_sameAt_9 : decode cX0_sameAt 9 = .ok (.if_icmp .ge 12, 3) := by decide +kernel
theorem dX0_sameAt_12 : decode cX0_sameAt 12 = .ok (.aload_n 0, 1) := by decide +kernel
theorem dX0_sameAt_13 : decode cX0_sameAt 13 = .ok (.getfield 21, 3) := by decide +kernel
theorem dX0_sameAt_16 : decode cX0_sameAt 16 = .ok (.iload_n 1, 1) := by decide +kernel
theorem dX0_sameAt_17 : decode cX0_sameAt 17 = .ok (.iaload, 1) := by decide +kernel
theorem dX0_sameAt_18 : decode cX0_sameAt 18 = .ok (.goto 4, 3) := by decide +kernel
theorem dX0_sameAt_21 : decode cX0_sameAt 21 = .ok (.iconst 0, 1) := by decide +kernel
theorem dX0_sameAt_22 : decode cX0_sameAt 22 = .ok (.ireturn, 1) := by decide +kernel
theorem dX8_pushBig_0 : decode cX8_pushBig 0 = .ok (.lload_n 1, 1) := by decide +kernel
theorem dX8_pushBig_1 : decode cX8_pushBig 1 = .ok (.invokestatic 31, 3) := by decide +kernel
theorem dX8_pushBig_4 : decode cX8_pushBig 4 = .ok (.iconst 1, 1) := by decide +kernel
theorem dX8_pushBig_5 : decode cX8_pushBig 5 = .ok (.isub, 1) := by decide +kernel
theorem dX8_pushBig_6 : decode cX8_pushBig 6 = .ok (.istore_n 3, 1) := by decide +kernel
theorem dX8_pushBig_7 : decode cX8_pushBig 7 = .ok (.iload_n 3, 1) := by decide +kernel
theorem dX8_pushBig_8 : decode cX8_pushBig 8 = .ok (.ifCond .le 27, 3) := by decide +kernel
theorem dX8_pushBig_11 : decode cX8_pushBig 11 = .ok (.aload_n 0, 1) := by decide +kernel
theorem dX8_pushBig_12 : decode cX8_pushBig 12 = .ok (.lload_n 1, 1) := by decide +kernel
theorem dX8_pushBig_13 : decode cX8_pushBig 13 = .ok (.bipush 7, 2) := by decide +kernel
theorem dX8_pushBig_15 : decode cX8_pushBig 15 = .ok (.iload_n 3, 1) := by decide +kernel
theorem dX8_pushBig_16 : decode cX8_pushBig 16 = .ok (.imul, 1) := by decide +kernel
theorem dX8_pushBig_17 : decode cX8_pushBig 17 = .ok (.lushr, 1) := by decide +kernel
theorem dX8_pushBig_18 : decode cX8_pushBig 18 = .ok (.l2i, 1) := by decide +kernel
theorem dX8_pushBig_19 : decode cX8_pushBig 19 = .ok (.bipush 127, 2) := by decide +kernel
theorem dX8_pushBig_21 : decode cX8_pushBig 21 = .ok (.iand, 1) := by decide +kernel
theorem dX8_pushBig_22 : decode cX8_pushBig 22 = .ok (.sipush 128, 3) := by decide +kernel
theorem dX8_pushBig_25 : decode cX8_pushBig 25 = .ok (.ior, 1) := by decide +kernel
theorem dX8_pushBig_26 : decode cX8_pushBig 26 = .ok (.invokevirtual 27, 3) := by decide +kernel
theorem dX8_pushBig_29 : decode cX8_pushBig 29 = .ok (.iinc 3 (-1), 3) := by decide +kernel
theorem dX8_pushBig_32 : decode cX8_pushBig 32 = .ok (.goto (-25), 3) := by decide +kernel
theorem dX8_pushBig_35 : decode cX8_pushBig 35 = .ok (.aload_n 0, 1) := by decide +kernel
theorem dX8_pushBig_36 : decode cX8_pushBig 36 = .ok (.lload_n 1, 1) := by decide +kernel
theorem dX8_pushBig_37 : decode cX8_pushBig 37 = .ok (.l2i, 1) := by decide +kernel
theorem dX8_pushBig_38 : decode cX8_pushBig 38 = .ok (.bipush 127, 2) := by decide +kernel
theorem dX8_pushBig_40 : decode cX8_pushBig 40 = .ok (.iand, 1) := by decide +kernel
theorem dX8_pushBig_41 : decode cX8_pushBig 41 = .ok (.invokevirtual 27, 3) := by decide +kernel
theorem dX8_pushBig_44 : decode cX8_pushBig 44 = .ok (.return_, 1) := by decide +kernel
theorem dX0_keep_0 : decode cX0_keep 0 = .ok (.aload_n 0, 1) := by decide +kernel
theorem dX0_keep_1 : decode cX0_keep 1 = .ok (.getfield 43, 3) := by decide +kernel
theorem dX0_keep_4 : decode cX0_keep 4 = .ok (.aload_n 0, 1) := by decide +kernel
theorem dX0_keep_5 : decode cX0_keep 5 = .ok (.getfield 27, 3) := by decide +kernel
theorem dX0_keep_8 : decode cX0_keep 8 = .ok (.if_icmp .ge 28, 3) := by decide +kernel
theorem dX0_keep_11 : decode cX0_keep 11 = .ok (.aload_n 0, 1) := by decide +kernel
theorem dX0_keep_12 : decode cX0_keep 12 = .ok (.getfield 15, 3) := by decide +kernel
theorem dX0_keep_15 : decode cX0_keep 15 = .ok (.aload_n 0, 1) := by decide +kernel
theorem dX0_keep_16 : decode cX0_keep 16 = .ok (.getfield 43, 3) := by decide +kernel
theorem dX0_keep_19 : decode cX0_keep 19 = .ok (.iload_n 1, 1) := by decide +kernel
theorem dX0_keep_20 : decode cX0_keep 20 = .ok (.iastore, 1) := by decide +kernel
theorem dX0_keep_21 : decode cX0_keep 21 = .ok (.aload_n 0, 1) := by decide +kernel
theorem dX0_keep_22 : decode cX0_keep 22 = .ok (.aload_n 0, 1) := by decide +kernel
theorem dX0_keep_23 : decode cX0_keep 23 = .ok (.getfield 43, 3) := by decide +kernel
theorem dX0_keep_26 : decode cX0_keep 26 = .ok (.iconst 1, 1) := by decide +kernel
theorem dX0_keep_27 : decode cX0_keep 27 = .ok (.iadd, 1) := by decide +kernel
theorem dX0_keep_28 : decode cX0_keep 28 = .ok (.aload_n 0, 1) := by decide +kernel
theorem dX0_keep_29 : decode cX0_keep 29 = .ok (.getfield 27, 3) := by decide +kernel
theorem dX0_keep_32 : decode cX0_keep 32 = .ok (.irem, 1) := by decide +kernel
theorem dX0_keep_33 : decode cX0_keep 33 = .ok (.putfield 43, 3) := by decide +kernel
theorem dX0_keep_36 : decode cX0_keep 36 = .ok (.aload_n 0, 1) := by decide +kernel
theorem dX0_keep_37 : decode cX0_keep 37 = .ok (.getfield 31, 3) := by decide +kernel
theorem dX0_keep_40 : decode cX0_keep 40 = .ok (.ifCond .le 19, 3) := by decide +kernel
theorem dX0_keep_43 : decode cX0_keep 43 = .ok (.iload_n 1, 1) := by decide +kernel
theorem dX0_keep_44 : decode cX0_keep 44 = .ok (.ifCond .lt 15, 3) := by decide +kernel
theorem dX0_keep_47 : decode cX0_keep 47 = .ok (.aload_n 0, 1) := by decide +kernel
theorem dX0_keep_48 : decode cX0_keep 48 = .ok (.getfield 21, 3) := by decide +kernel
theorem dX0_keep_51 : decode cX0_keep 51 = .ok (.iload_n 1, 1) := by decide +kernel
theorem dX0_keep_52 : decode cX0_keep 52 = .ok (.aload_n 0, 1) := by decide +kernel
theorem dX0_keep_53 : decode cX0_keep 53 = .ok (.getfield 31, 3) := by decide +kernel
theorem dX0_keep_56 : decode cX0_keep 56 = .ok (.irem, 1) := by decide +kernel
theorem dX0_keep_57 : decode cX0_keep 57 = .ok (.iload_n 1, 1) := by decide +kernel
theorem dX0_keep_58 : decode cX0_keep 58 = .ok (.iastore, 1) := by decide +kernel
theorem dX0_keep_59 : decode cX0_keep 59 = .ok (.return_, 1) := by decide +kernel
theorem dX5_tellAddress_0 : decode cX5_tellAddress 0 = .ok (.iconst 0, 1) := by decide +kernel
theorem dX5_tellAddress_1 : decode cX5_tellAddress 1 = .ok (.istore_n 3, 1) := by decide +kernel
theorem dX5_tellAddress_2 : decode cX5_tellAddress 2 = .ok (.iload_n 1, 1) := by decide +kernel
theorem dX5_tellAddress_3 : decode cX5_tellAddress 3 = .ok (.istore 4, 2) := by decide +kernel
theorem dX5_tellAddress_5 : decode cX5_tellAddress 5 = .ok (.iload_n 2, 1) := by decide +kernel
theorem dX5_tellAddress_6 : decode cX5_tellAddress 6 = .ok (.iload_n 1, 1) := by decide +kernel
theorem dX5_tellAddress_7 : decode cX5_tellAddress 7 = .ok (.isub, 1) := by decide +kernel
theorem dX5_tellAddress_8 : decode cX5_tellAddress 8 = .ok (.i2l, 1) := by decide +kernel
theorem dX5_tellAddress_9 : decode cX5_tellAddress 9 = .ok (.invokestatic 153, 3) := by decide +kernel
theorem dX5_tellAddress_12 : decode cX5_tellAddress 12 = .ok (.iload 4, 2) := by decide +kernel
theorem dX5_tellAddress_14 : decode cX5_tellAddress 14 = .ok (.i2l, 1) := by decide +kernel
theorem dX5_tellAddress_15 : decode cX5_tellAddress 15 = .ok (.invokestatic 153, 3) := by decide +kernel
theorem dX5_tellAddress_18 : decode cX5_tellAddress 18 = .ok (.if_icmp .ge 10, 3) := by decide +kernel
theorem dX5_tellAddress_21 : decode cX5_tellAddress 21 = .ok (.iconst 1, 1) := by decide +kernel
theorem dX5_tellAddress_22 : decode cX5_tellAddress 22 = .ok (.istore_n 3, 1) := by decide +kernel
theorem dX5_tellAddress_23 : decode cX5_tellAddress 23 = .ok (.iload_n 2, 1) := by decide +kernel
theorem dX5_tellAddress_24 : decode cX5_tellAddress 24 = .ok (.iload_n 1, 1) := by decide +kernel
theorem dX5_tellAddress_25 : decode cX5_tellAddress 25 = .ok (.isub, 1) := by decide +kernel
theorem dX5_tellAddress_26 : decode cX5_tellAddress 26 = .ok (.istore 4, 2) := by decide +kernel
theorem dX5_tellAddress_28 : decode cX5_tellAddress 28 = .ok (.iconst 0, 1) := by decide +kernel
theorem dX5_tellAddress_29 : decode cX5_tellAddress 29 = .ok (.istore 5, 2) := by decide +kernel
theorem dX5_tellAddress_31 : decode cX5_tellAddress 31 = .ok (.iload 5, 2) := by decide +kernel
theorem dX5_tellAddress_33 : decode cX5_tellAddress 33 = .ok (.aload_n 0, 1) := by decide +kernel
theorem dX5_tellAddress_34 : decode cX5_tellAddress 34 = .ok (.getfield 37, 3) := by decide +kernel
theorem dX5_tellAddress_37 : decode cX5_tellAddress 37 = .ok (.getfield 157, 3) := by decide +kernel
theorem dX5_tellAddress_40 : decode cX5_tellAddress 40 = .ok (.if_icmp .ge 51, 3) := by decide +kernel
theorem dX5_tellAddress_43 : decode cX5_tellAddress 43 = .ok (.iload_n 1, 1) := by decide +kernel
theorem dX5_tellAddress_44 : decode cX5_tellAddress 44 = .ok (.aload_n 0, 1) := by decide +kernel
theorem dX5_tellAddress_45 : decode cX5_tellAddress 45 = .ok (.getfield 37, 3) := by decide +kernel
theorem dX5_tellAddress_48 : decode cX5_tellAddress 48 = .ok (.iload 5, 2) := by decide +kernel
theorem dX5_tellAddress_50 : decode cX5_tellAddress 50 = .ok (.invokevirtual 160, 3) := by decide +kernel
theorem dX5_tellAddress_53 : decode cX5_tellAddress 53 = .ok (.isub, 1) := by decide +kernel
theorem dX5_tellAddress_54 : decode cX5_tellAddress 54 = .ok (.istore 6, 2) := by decide +kernel
theorem dX5_tellAddress_56 : decode cX5_tellAddress 56 = .ok (.iload 6, 2) := by decide +kernel
theorem dX5_tellAddress_58 : decode cX5_tellAddress 58 = .ok (.ifCond .lt 27, 3) := by decide +kernel
theorem dX5_tellAddress_61 : decode cX5_tellAddress 61 = .ok (.iload 6, 2) := by decide +kernel
theorem dX5_tellAddress_63 : decode cX5_tellAddress 63 = .ok (.i2l, 1) := by decide +kernel
theorem dX5_tellAddress_64 : decode cX5_tellAddress 64 = .ok (.invokestatic 153, 3) := by decide +kernel
theorem dX5_tellAddress_67 : decode cX5_tellAddress 67 = .ok (.iload 4, 2) := by decide +kernel
theorem dX5_tellAddress_69 : decode cX5_tellAddress 69 = .ok (.i2l, 1) := by decide +kernel
theorem dX5_tellAddress_70 : decode cX5_tellAddress 70 = .ok (.invokestatic 153, 3) := by decide +kernel
theorem dX5_tellAddress_73 : decode cX5_tellAddress 73 = .ok (.if_icmp .ge 12, 3) := by decide +kernel
theorem dX5_tellAddress_76 : decode cX5_tellAddress 76 = .ok (.iconst 2, 1) := by decide +kernel
theorem dX5_tellAddress_77 : decode cX5_tellAddress 77 = .ok (.iload 5, 2) := by decide +kernel
theorem dX5_tellAddress_79 : decode cX5_tellAddress 79 = .ok (.iadd, 1) := by decide +kernel
theorem dX5_tellAddress_80 : decode cX5_tellAddress 80 = .ok (.istore_n 3, 1) := by decide +kernel
theorem dX5_tellAddress_81 : decode cX5_tellAddress 81 = .ok (.iload 6, 2) := by decide +kernel
theorem dX5_tellAddress_83 : decode cX5_tellAddress 83 = .ok (.istore 4, 2) := by decide +kernel
theorem dX5_tellAddress_85 : decode cX5_tellAddress 85 = .ok (.iinc 5 1, 3) := by decide +kernel
theorem dX5_tellAddress_88 : decode cX5_tellAddress 88 = .ok (.goto (-57), 3) := by decide +kernel
theorem dX5_tellAddress_91 : decode cX5_tellAddress 91 = .ok (.aload_n 0, 1) := by decide +kernel
theorem dX5_tellAddress_92 : decode cX5_tellAddress 92 = .ok (.getfield 37, 3) := by decide +kernel
theorem dX5_tellAddress_95 : decode cX5_tellAddress 95 = .ok (.getfield 163, 3) := by decide +kernel
theorem dX5_tellAddress_98 : decode cX5_tellAddress 98 = .ok (.ifCond .le 15, 3) := by decide +kernel
theorem dX5_tellAddress_101 : decode cX5_tellAddress 101 = .ok (.iload_n 1, 1) := by decide +kernel
theorem dX5_tellAddress_102 : decode cX5_tellAddress 102 = .ok (.aload_n 0, 1) := by decide +kernel
theorem dX5_tellAddress_103 : decode cX5_tellAddress 103 = .ok (.getfield 37, 3) := by decide +kernel
theorem dX5_tellAddress_106 : decode cX5_tellAddress 106 = .ok (.getfield 163, 3) := by decide +kernel
theorem dX5_tellAddress_109 : decode cX5_tellAddress 109 = .ok (.irem, 1) := by decide +kernel
theorem dX5_tellAddress_110 : decode cX5_tellAddress 110 = .ok (.goto 4, 3) := by decide +kernel
theorem dX5_tellAddress_113 : decode cX5_tellAddress 113 = .ok (.iconst (-1), 1) := by decide +kernel
theorem dX5_tellAddress_114 : decode cX5_tellAddress 114 = .ok (.istore 5, 2) := by decide +kernel
theorem dX5_tellAddress_116 : decode cX5_tellAddress 116 = .ok (.iload 5, 2) := by decide +kernel
theorem dX5_tellAddress_118 : decode cX5_tellAddress 118 = .ok (.ifCond .lt 59, 3) := by decide +kernel
theorem dX5_tellAddress_121 : decode cX5_tellAddress 121 = .ok (.aload_n 0, 1) := by decide +kernel
theorem dX5_tellAddress_122 : decode cX5_tellAddress 122 = .ok (.getfield 37, 3) := by decide +kernel
theorem dX5_tellAddress_125 : decode cX5_tellAddress 125 = .ok (.iload 5, 2) := by decide +kernel
theorem dX5_tellAddress_127 : decode cX5_tellAddress 127 = .ok (.invokevirtual 166, 3) := by decide +kernel
theorem dX5_tellAddress_130 : decode cX5_tellAddress 130 = .ok (.iload_n 1, 1) := by decide +kernel
theorem dX5_tellAddress_131 : decode cX5_tellAddress 131 = .ok (.if_icmp .ne 46, 3) := by decide +kernel
theorem dX5_tellAddress_134 : decode cX5_tellAddress 134 = .ok (.iload 4, 2) := by decide +kernel
theorem dX5_tellAddress_136 : decode cX5_tellAddress 136 = .ok (.i2l, 1) := by decide +kernel
theorem dX5_tellAddress_137 : decode cX5_tellAddress 137 = .ok (.invokestatic 153, 3) := by decide +kernel
theorem dX5_tellAddress_140 : decode cX5_tellAddress 140 = .ok (.iconst 1, 1) := by decide +kernel
theorem dX5_tellAddress_141 : decode cX5_tellAddress 141 = .ok (.if_icmp .le 36, 3) := by decide +kernel
theorem dX5_tellAddress_144 : decode cX5_tellAddress 144 = .ok (.iconst 2, 1) := by decide +kernel
theorem dX5_tellAddress_145 : decode cX5_tellAddress 145 = .ok (.aload_n 0, 1) := by decide +kernel
theorem dX5_tellAddress_146 : decode cX5_tellAddress 146 = .ok (.getfield 37, 3) := by decide +kernel
theorem dX5_tellAddress_149 : decode cX5_tellAddress 149 = .ok (.getfield 157, 3) := by decide +kernel
theorem dX5_tellAddress_152 : decode cX5_tellAddress 152 = .ok (.iadd, 1) := by decide +kernel
theorem dX5_tellAddress_153 : decode cX5_tellAddress 153 = .ok (.iload 5, 2) := by decide +kernel
theorem dX5_tellAddress_155 : decode cX5_tellAddress 155 = .ok (.sipush 256, 3) := by decide +kernel
theorem dX5_tellAddress_158 : decode cX5_tellAddress 158 = .ok (.idiv, 1) := by decide +kernel
theorem dX5_tellAddress_159 : decode cX5_tellAddress 159 = .ok (.iadd, 1) := by decide +kernel
theorem dX5_tellAddress_160 : decode cX5_tellAddress 160 = .ok (.istore_n 3, 1) := by decide +kernel
theorem dX5_tellAddress_161 : decode cX5_tellAddress 161 = .ok (.aload_n 0, 1) := by decide +kernel
theorem dX5_tellAddress_162 : decode cX5_tellAddress 162 = .ok (.getfield 53, 3) := by decide +kernel
theorem dX5_tellAddress_165 : decode cX5_tellAddress 165 = .ok (.iload 5, 2) := by decide +kernel
theorem dX5_tellAddress_167 : decode cX5_tellAddress 167 = .ok (.sipush 256, 3) := by decide +kernel
theorem dX5_tellAddress_170 : decode cX5_tellAddress 170 = .ok (.irem, 1) := by decide +kernel
theorem dX5_tellAddress_171 : decode cX5_tellAddress 171 = .ok (.invokevirtual 96, 3) := by decide +kernel
theorem dX5_tellAddress_174 : decode cX5_tellAddress 174 = .ok (.goto 13, 3) := by decide +kernel
theorem dX5_tellAddress_177 : decode cX5_tellAddress 177 = .ok (.aload_n 0, 1) := by decide +kernel
theorem dX5_tellAddress_178 : decode cX5_tellAddress 178 = .ok (.getfield 53, 3) := by decide +kernel
theorem dX5_tellAddress_181 : decode cX5_tellAddress 181 = .ok (.iload 4, 2) := by decide +kernel
theorem dX5_tellAddress_183 : decode cX5_tellAddress 183 = .ok (.i2l, 1) := by decide +kernel
theorem dX5_tellAddress_184 : decode cX5_tellAddress 184 = .ok (.invokevirtual 99, 3) := by decide +kernel
theorem dX5_tellAddress_187 : decode cX5_tellAddress 187 = .ok (.aload_n 0, 1) := by decide +kernel
theorem dX5_tellAddress_188 : decode cX5_tellAddress 188 = .ok (.getfield 37, 3) := by decide +kernel
theorem dX5_tellAddress_191 : decode cX5_tellAddress 191 = .ok (.iload_n 1, 1) := by decide +kernel
theorem dX5_tellAddress_192 : decode cX5_tellAddress 192 = .ok (.invokevirtual 169, 3) := by decide +kernel
theorem dX5_tellAddress_195 : decode cX5_tellAddress 195 = .ok (.iload_n 3, 1) := by decide +kernel
theorem dX5_tellAddress_196 : decode cX5_tellAddress 196 = .ok (.ireturn, 1) := by decide +kernel
theorem dX6_pushAdded_0 : decode cX6_pushAdded 0 = .ok (.aload_n 0, 1) := by decide +kernel
theorem dX6_pushAdded_1 : decode cX6_pushAdded 1 = .ok (.getfield 21, 3) := by decide +kernel
theorem dX6_pushAdded_4 : decode cX6_pushAdded 4 = .ok (.iconst 1, 1) := by decide +kernel
theorem dX6_pushAdded_5 : decode cX6_pushAdded 5 = .ok (.isub, 1) := by decide +kernel
theorem dX6_pushAdded_6 : decode cX6_pushAdded 6 = .ok (.istore_n 1, 1) := by decide +kernel
theorem dX6_pushAdded_7 : decode cX6_pushAdded 7 = .ok (.iload_n 1, 1) := by decide +kernel
theorem dX6_pushAdded_8 : decode cX6_pushAdded 8 = .ok (.ifCond .lt 38, 3) := by decide +kernel
theorem dX6_pushAdded_11 : decode cX6_pushAdded 11 = .ok (.aload_n 0, 1) := by decide +kernel
theorem dX6_pushAdded_12 : decode cX6_pushAdded 12 = .ok (.getfield 9, 3) := by decide +kernel
theorem dX6_pushAdded_15 : decode cX6_pushAdded 15 = .ok (.iload_n 1, 1) := by decide +kernel
theorem dX6_pushAdded_16 : decode cX6_pushAdded 16 = .ok (.iaload, 1) := by decide +kernel
theorem dX6_pushAdded_17 : decode cX6_pushAdded 17 = .ok (.iconst 1, 1) := by decide +kernel
theorem dX6_pushAdded_18 : decode cX6_pushAdded 18 = .ok (.if_icmp .ne 28, 3) := by decide +kernel
theorem dX6_pushAdded_21 : decode cX6_pushAdded 21 = .ok (.aload_n 0, 1) := by decide +kernel
theorem dX6_pushAdded_22 : decode cX6_pushAdded 22 = .ok (.getfield 15, 3) := by decide +kernel
theorem dX6_pushAdded_25 : decode cX6_pushAdded 25 = .ok (.iload_n 1, 1) := by decide +kernel
theorem dX6_pushAdded_26 : decode cX6_pushAdded 26 = .ok (.iaload, 1) := by decide +kernel
theorem dX6_pushAdded_27 : decode cX6_pushAdded 27 = .ok (.sipush 255, 3) := by decide +kernel
theorem dX6_pushAdded_30 : decode cX6_pushAdded 30 = .ok (.if_icmp .ge 16, 3) := by decide +kernel
theorem dX6_pushAdded_33 : decode cX6_pushAdded 33 = .ok (.aload_n 0, 1) := by decide +kernel
theorem dX6_pushAdded_34 : decode cX6_pushAdded 34 = .ok (.getfield 15, 3) := by decide +kernel
theorem dX6_pushAdded_37 : decode cX6_pushAdded 37 = .ok (.iload_n 1, 1) := by decide +kernel
theorem dX6_pushAdded_38 : decode cX6_pushAdded 38 = .ok (.dup2, 1) := by decide +kernel
theorem dX6_pushAdded_39 : decode cX6_pushAdded 39 = .ok (.iaload, 1) := by decide +kernel
theorem dX6_pushAdded_40 : decode cX6_pushAdded 40 = .ok (.iconst 1, 1) := by decide +kernel
theorem dX6_pushAdded_41 : decode cX6_pushAdded 41 = .ok (.iadd, 1) := by decide +kernel
theorem dX6_pushAdded_42 : decode cX6_pushAdded 42 = .ok (.iastore, 1) := by decide +kernel
theorem dX6_pushAdded_43 : decode cX6_pushAdded 43 = .ok (.goto 10, 3) := by decide +kernel
theorem dX6_pushAdded_46 : decode cX6_pushAdded 46 = .ok (.aload_n 0, 1) := by decide +kernel
theorem dX6_pushAdded_47 : decode cX6_pushAdded 47 = .ok (.iconst 1, 1) := by decide +kernel
theorem dX6_pushAdded_48 : decode cX6_pushAdded 48 = .ok (.iconst 1, 1) := by decide +kernel
theorem dX6_pushAdded_49 : decode cX6_pushAdded 49 = .ok (.iconst 0, 1) := by decide +kernel
theorem dX6_pushAdded_50 : decode cX6_pushAdded 50 = .ok (.invokevirtual 25, 3) := by decide +kernel
theorem dX6_pushAdded_53 : decode cX6_pushAdded 53 = .ok (.return_, 1) := by decide +kernel
theorem dX5_findMoves_0 : decode cX5_findMoves 0 = .ok (.aload_n 0, 1) := by decide +kernel
theorem dX5_findMoves_1 : decode cX5_findMoves 1 = .ok (.getfield 21, 3) := by decide +kernel
theorem dX5_findMoves_4 : decode cX5_findMoves 4 = .ok (.invokevirtual 118, 3) := by decide +kernel
theorem dX5_findMoves_7 : decode cX5_findMoves 7 = .ok (.aload_n 0, 1) := by decide +kernel
theorem dX5_findMoves_8 : decode cX5_findMoves 8 = .ok (.getfield 46, 3) := by decide +kernel
theorem dX5_findMoves_11 : decode cX5_findMoves 11 = .ok (.invokevirtual 121, 3) := by decide +kernel
theorem dX5_findMoves_14 : decode cX5_findMoves 14 = .ok (.aload_n 0, 1) := by decide +kernel
theorem dX5_findMoves_15 : decode cX5_findMoves 15 = .ok (.getfield 53, 3) := by decide +kernel
theorem dX5_findMoves_18 : decode cX5_findMoves 18 = .ok (.invokevirtual 121, 3) := by decide +kernel
theorem dX5_findMoves_21 : decode cX5_findMoves 21 = .ok (.aload_n 0, 1) := by decide +kernel
theorem dX5_findMoves_22 : decode cX5_findMoves 22 = .ok (.getfield 37, 3) := by decide +kernel
theorem dX5_findMoves_25 : decode cX5_findMoves 25 = .ok (.invokevirtual 122, 3) := by decide +kernel
theorem dX5_findMoves_28 : decode cX5_findMoves 28 = .ok (.iload_n 1, 1) := by decide +kernel
theorem dX5_findMoves_29 : decode cX5_findMoves 29 = .ok (.istore_n 2, 1) := by decide +kernel
theorem dX5_findMoves_30 : decode cX5_findMoves 30 = .ok (.iconst 0, 1) := by decide +kernel
theorem dX5_findMoves_31 : decode cX5_findMoves 31 = .ok (.istore_n 3, 1) := by decide +kernel
theorem dX5_findMoves_32 : decode cX5_findMoves 32 = .ok (.iload_n 3, 1) := by decide +kernel
theorem dX5_findMoves_33 : decode cX5_findMoves 33 = .ok (.sipush 2048, 3) := by decide +kernel
theorem dX5_findMoves_36 : decode cX5_findMoves 36 = .ok (.if_icmp .ge 154, 3) := by decide +kernel
theorem dX5_findMoves_39 : decode cX5_findMoves 39 = .ok (.iload_n 2, 1) := by decide +kernel
theorem dX5_findMoves_40 : decode cX5_findMoves 40 = .ok (.aload_n 0, 1) := by decide +kernel
theorem dX5_findMoves_41 : decode cX5_findMoves 41 = .ok (.getfield 12, 3) := by decide +kernel
theorem dX5_findMoves_44 : decode cX5_findMoves 44 = .ok (.invokevirtual 125, 3) := by decide +kernel
theorem dX5_findMoves_47 : decode cX5_findMoves 47 = .ok (.if_icmp .ge 143, 3) := by decide +kernel
theorem dX5_findMoves_50 : decode cX5_findMoves 50 = .ok (.aload_n 0, 1) := by decide +kernel
theorem dX5_findMoves_51 : decode cX5_findMoves 51 = .ok (.getfield 12, 3) := by decide +kernel
theorem dX5_findMoves_54 : decode cX5_findMoves 54 = .ok (.iload_n 2, 1) := by decide +kernel
theorem dX5_findMoves_55 : decode cX5_findMoves 55 = .ok (.invokevirtual 128, 3) := by decide +kernel
theorem dX5_findMoves_58 : decode cX5_findMoves 58 = .ok (.aload_n 0, 1) := by decide +kernel
theorem dX5_findMoves_59 : decode cX5_findMoves 59 = .ok (.getfield 12, 3) := by decide +kernel
theorem dX5_findMoves_62 : decode cX5_findMoves 62 = .ok (.iload_n 2, 1) := by decide +kernel
theorem dX5_findMoves_63 : decode cX5_findMoves 63 = .ok (.invokevirtual 131, 3) := by decide +kernel
theorem dX5_findMoves_66 : decode cX5_findMoves 66 = .ok (.istore 4, 2) := by decide +kernel
theorem dX5_findMoves_68 : decode cX5_findMoves 68 = .ok (.aload_n 0, 1) := by decide +kernel
theorem dX5_findMoves_69 : decode cX5_findMoves 69 = .ok (.getfield 12, 3) := by decide +kernel
theorem dX5_findMoves_72 : decode cX5_findMoves 72 = .ok (.getfield 135, 3) := by decide +kernel
theorem dX5_findMoves_75 : decode cX5_findMoves 75 = .ok (.istore 5, 2) := by decide +kernel
theorem dX5_findMoves_77 : decode cX5_findMoves 77 = .ok (.iload 4, 2) := by decide +kernel
theorem dX5_findMoves_79 : decode cX5_findMoves 79 = .ok (.iconst 4, 1) := by decide +kernel
theorem dX5_findMoves_80 : decode cX5_findMoves 80 = .ok (.if_icmp .lt 44, 3) := by decide +kernel
theorem dX5_findMoves_83 : decode cX5_findMoves 83 = .ok (.iload 5, 2) := by decide +kernel
theorem dX5_findMoves_85 : decode cX5_findMoves 85 = .ok (.iload 4, 2) := by decide +kernel
theorem dX5_findMoves_87 : decode cX5_findMoves 87 = .ok (.if_icmp .gt 37, 3) := by decide +kernel
theorem dX5_findMoves_90 : decode cX5_findMoves 90 = .ok (.aload_n 0, 1) := by decide +kernel
theorem dX5_findMoves_91 : decode cX5_findMoves 91 = .ok (.getfield 21, 3) := by decide +kernel
theorem dX5_findMoves_94 : decode cX5_findMoves 94 = .ok (.iconst 2, 1) := by decide +kernel
theorem dX5_findMoves_95 : decode cX5_findMoves 95 = .ok (.iload 4, 2) := by decide +kernel
theorem dX5_findMoves_97 : decode cX5_findMoves 97 = .ok (.iconst 0, 1) := by decide +kernel
theorem dX5_findMoves_98 : decode cX5_findMoves 98 = .ok (.invokevirtual 138, 3) := by decide +kernel
theorem dX5_findMoves_101 : decode cX5_findMoves 101 = .ok (.aload_n 0, 1) := by decide +kernel
theorem dX5_findMoves_102 : decode cX5_findMoves 102 = .ok (.getfield 46, 3) := by decide +kernel
theorem dX5_findMoves_105 : decode cX5_findMoves 105 = .ok (.aload_n 0, 1) := by decide +kernel
theorem dX5_findMoves_106 : decode cX5_findMoves 106 = .ok (.getfield 12, 3) := by decide +kernel
theorem dX5_findMoves_109 : decode cX5_findMoves 109 = .ok (.iload_n 2, 1) := by decide +kernel
theorem dX5_findMoves_110 : decode cX5_findMoves 110 = .ok (.invokevirtual 141, 3) := by decide +kernel
theorem dX5_findMoves_113 : decode cX5_findMoves 113 = .ok (.invokevirtual 96, 3) := by decide +kernel
theorem dX5_findMoves_116 : decode cX5_findMoves 116 = .ok (.iload_n 2, 1) := by decide +kernel
theorem dX5_findMoves_117 : decode cX5_findMoves 117 = .ok (.iload 4, 2) := by decide +kernel
theorem dX5_findMoves_119 : decode cX5_findMoves 119 = .ok (.iadd, 1) := by decide +kernel
theorem dX5_findMoves_120 : decode cX5_findMoves 120 = .ok (.istore_n 2, 1) := by decide +kernel
theorem dX5_findMoves_121 : decode cX5_findMoves 121 = .ok (.goto 63, 3) := by decide +kernel
theorem dX5_findMoves_124 : decode cX5_findMoves 124 = .ok (.iload 5, 2) := by decide +kernel
theorem dX5_findMoves_126 : decode cX5_findMoves 126 = .ok (.ifCond .le 33, 3) := by decide +kernel
theorem dX5_findMoves_129 : decode cX5_findMoves 129 = .ok (.aload_n 0, 1) := by decide +kernel
theorem dX5_findMoves_130 : decode cX5_findMoves 130 = .ok (.getfield 21, 3) := by decide +kernel
theorem dX5_findMoves_133 : decode cX5_findMoves 133 = .ok (.iconst 3, 1) := by decide +kernel
theorem dX5_findMoves_134 : decode cX5_findMoves 134 = .ok (.iload 5, 2) := by decide +kernel
theorem dX5_findMoves_136 : decode cX5_findMoves 136 = .ok (.aload_n 0, 1) := by decide +kernel
theorem dX5_findMoves_137 : decode cX5_findMoves 137 = .ok (.aload_n 0, 1) := by decide +kernel
theorem dX5_findMoves_138 : decode cX5_findMoves 138 = .ok (.getfield 12, 3) := by decide +kernel
theorem dX5_findMoves_141 : decode cX5_findMoves 141 = .ok (.getfield 144, 3) := by decide +kernel
theorem dX5_findMoves_144 : decode cX5_findMoves 144 = .ok (.iload_n 2, 1) := by decide +kernel
theorem dX5_findMoves_145 : decode cX5_findMoves 145 = .ok (.invokevirtual 147, 3) := by decide +kernel
theorem dX5_findMoves_148 : decode cX5_findMoves 148 = .ok (.invokevirtual 138, 3) := by decide +kernel
theorem dX5_findMoves_151 : decode cX5_findMoves 151 = .ok (.iload_n 2, 1) := by decide +kernel
theorem dX5_findMoves_152 : decode cX5_findMoves 152 = .ok (.iload 5, 2) := by decide +kernel
theorem dX5_findMoves_154 : decode cX5_findMoves 154 = .ok (.iadd, 1) := by decide +kernel
theorem dX5_findMoves_155 : decode cX5_findMoves 155 = .ok (.istore_n 2, 1) := by decide +kernel
theorem dX5_findMoves_156 : decode cX5_findMoves 156 = .ok (.goto 28, 3) := by decide +kernel
theorem dX5_findMoves_159 : decode cX5_findMoves 159 = .ok (.aload_n 0, 1) := by decide +kernel
theorem dX5_findMoves_160 : decode cX5_findMoves 160 = .ok (.getfield 21, 3) := by decide +kernel
theorem dX5_findMoves_163 : decode cX5_findMoves 163 = .ok (.invokevirtual 150, 3) := by decide +kernel
theorem dX5_findMoves_166 : decode cX5_findMoves 166 = .ok (.aload_n 0, 1) := by decide +kernel
theorem dX5_findMoves_167 : decode cX5_findMoves 167 = .ok (.getfield 46, 3) := by decide +kernel
theorem dX5_findMoves_170 : decode cX5_findMoves 170 = .ok (.aload_n 0, 1) := by decide +kernel
theorem dX5_findMoves_171 : decode cX5_findMoves 171 = .ok (.getfield 12, 3) := by decide +kernel
theorem dX5_findMoves_174 : decode cX5_findMoves 174 = .ok (.iload_n 2, 1) := by decide +kernel
theorem dX5_findMoves_175 : decode cX5_findMoves 175 = .ok (.invokevirtual 141, 3) := by decide +kernel
theorem dX5_findMoves_178 : decode cX5_findMoves 178 = .ok (.invokevirtual 96, 3) := by decide +kernel
theorem dX5_findMoves_181 : decode cX5_findMoves 181 = .ok (.iinc 2 1, 3) := by decide +kernel
theorem dX5_findMoves_184 : decode cX5_findMoves 184 = .ok (.iinc 3 1, 3) := by decide +kernel
theorem dX5_findMoves_187 : decode cX5_findMoves 187 = .ok (.goto (-155), 3) := by decide +kernel
theorem dX5_findMoves_190 : decode cX5_findMoves 190 = .ok (.return_, 1) := by decide +kernel
theorem dX6_length_0 : decode cX6_length 0 = .ok (.aload_n 0, 1) := by decide +kernel
theorem dX6_length_1 : decode cX6_length 1 = .ok (.getfield 21, 3) := by decide +kernel
theorem dX6_length_4 : decode cX6_length 4 = .ok (.ireturn, 1) := by decide +kernel
theorem dX6_sizeOf_0 : decode cX6_sizeOf 0 = .ok (.iload_n 1, 1) := by decide +kernel
theorem dX6_sizeOf_1 : decode cX6_sizeOf 1 = .ok (.ifCond .lt 20, 3) := by decide +kernel
theorem dX6_sizeOf_4 : decode cX6_sizeOf 4 = .ok (.iload_n 1, 1) := by decide +kernel
theorem dX6_sizeOf_5 : decode cX6_sizeOf 5 = .ok (.aload_n 0, 1) := by decide +kernel
theorem dX6_sizeOf_6 : decode cX6_sizeOf 6 = .ok (.getfield 21, 3) := by decide +kernel
theorem dX6_sizeOf_9 : decode cX6_sizeOf 9 = .ok (.if_icmp .ge 12, 3) := by decide +kernel
theorem dX6_sizeOf_12 : decode cX6_sizeOf 12 = .ok (.aload_n 0, 1) := by decide +kernel
theorem dX6_sizeOf_13 : decode cX6_sizeOf 13 = .ok (.getfield 15, 3) := by decide +kernel
theorem dX6_sizeOf_16 : decode cX6_sizeOf 16 = .ok (.iload_n 1, 1) := by decide +kernel
theorem dX6_sizeOf_17 : decode cX6_sizeOf 17 = .ok (.iaload, 1) := by decide +kernel
theorem dX6_sizeOf_18 : decode cX6_sizeOf 18 = .ok (.goto 4, 3) := by decide +kernel
theorem dX6_sizeOf_21 : decode cX6_sizeOf 21 = .ok (.iconst 0, 1) := by decide +kernel
theorem dX6_sizeOf_22 : decode cX6_sizeOf 22 = .ok (.ireturn, 1) := by decide +kernel
theorem dX1_head_0 : decode cX1_head 0 = .ok (.iload_n 1, 1) := by decide +kernel
theorem dX1_head_1 : decode cX1_head 1 = .ok (.invokestatic 30, 3) := by decide +kernel
theorem dX1_head_4 : decode cX1_head 4 = .ok (.ifCond .eq 12, 3) := by decide +kernel
theorem dX1_head_7 : decode cX1_head 7 = .ok (.aload_n 0, 1) := by decide +kernel
theorem dX1_head_8 : decode cX1_head 8 = .ok (.getfield 9, 3) := by decide +kernel
theorem dX1_head_11 : decode cX1_head 11 = .ok (.iload_n 1, 1) := by decide +kernel
theorem dX1_head_12 : decode cX1_head 12 = .ok (.iaload, 1) := by decide +kernel
theorem dX1_head_13 : decode cX1_head 13 = .ok (.goto 4, 3) := by decide +kernel
theorem dX1_head_16 : decode cX1_head 16 = .ok (.iconst (-1), 1) := by decide +kernel
theorem dX1_head_17 : decode cX1_head 17 = .ok (.ireturn, 1) := by decide +kernel
theorem dX6_isHalf_0 : decode cX6_isHalf 0 = .ok (.iload_n 1, 1) := by decide +kernel
theorem dX6_isHalf_1 : decode cX6_isHalf 1 = .ok (.ifCond .lt 65, 3) := by decide +kernel
theorem dX6_isHalf_4 : decode cX6_isHalf 4 = .ok (.iload_n 1, 1) := by decide +kernel
theorem dX6_isHalf_5 : decode cX6_isHalf 5 = .ok (.aload_n 0, 1) := by decide +kernel
theorem dX6_isHalf_6 : decode cX6_isHalf 6 = .ok (.getfield 21, 3) := by decide +kernel
theorem dX6_isHalf_9 : decode cX6_isHalf 9 = .ok (.if_icmp .ge 57, 3) := by decide +kernel
theorem dX6_isHalf_12 : decode cX6_isHalf 12 = .ok (.aload_n 2, 1) := by decide +kernel
theorem dX6_isHalf_13 : decode cX6_isHalf 13 = .ok (.iload_n 3, 1) := by decide +kernel
theorem dX6_isHalf_14 : decode cX6_isHalf 14 = .ok (.iload 4, 2) := by decide +kernel
theorem dX6_isHalf_16 : decode cX6_isHalf 16 = .ok (.iconst 0, 1) := by decide +kernel
theorem dX6_isHalf_17 : decode cX6_isHalf 17 = .ok (.iadd, 1) := by decide +kernel
theorem dX6_isHalf_18 : decode cX6_isHalf 18 = .ok (.invokevirtual 29, 3) := by decide +kernel
theorem dX6_isHalf_21 : decode cX6_isHalf 21 = .ok (.aload_n 0, 1) := by decide +kernel
theorem dX6_isHalf_22 : decode cX6_isHalf 22 = .ok (.getfield 9, 3) := by decide +kernel
theorem dX6_isHalf_25 : decode cX6_isHalf 25 = .ok (.iload_n 1, 1) := by decide +kernel
theorem dX6_isHalf_26 : decode cX6_isHalf 26 = .ok (.iaload, 1) := by decide +kernel
theorem dX6_isHalf_27 : decode cX6_isHalf 27 = .ok (.if_icmp .ne 39, 3) := by decide +kernel
theorem dX6_isHalf_30 : decode cX6_isHalf 30 = .ok (.aload_n 2, 1) := by decide +kernel
theorem dX6_isHalf_31 : decode cX6_isHalf 31 = .ok (.iload_n 3, 1) := by decide +kernel
theorem dX6_isHalf_32 : decode cX6_isHalf 32 = .ok (.iload 4, 2) := by decide +kernel
theorem dX6_isHalf_34 : decode cX6_isHalf 34 = .ok (.iconst 1, 1) := by decide +kernel
theorem dX6_isHalf_35 : decode cX6_isHalf 35 = .ok (.iadd, 1) := by decide +kernel
theorem dX6_isHalf_36 : decode cX6_isHalf 36 = .ok (.invokevirtual 29, 3) := by decide +kernel
theorem dX6_isHalf_39 : decode cX6_isHalf 39 = .ok (.iload 5, 2) := by decide +kernel
theorem dX6_isHalf_41 : decode cX6_isHalf 41 = .ok (.if_icmp .ne 25, 3) := by decide +kernel
theorem dX6_isHalf_44 : decode cX6_isHalf 44 = .ok (.aload_n 2, 1) := by decide +kernel
theorem dX6_isHalf_45 : decode cX6_isHalf 45 = .ok (.iload_n 3, 1) := by decide +kernel
theorem dX6_isHalf_46 : decode cX6_isHalf 46 = .ok (.iload 4, 2) := by decide +kernel
theorem dX6_isHalf_48 : decode cX6_isHalf 48 = .ok (.iconst 2, 1) := by decide +kernel
theorem dX6_isHalf_49 : decode cX6_isHalf 49 = .ok (.iadd, 1) := by decide +kernel
theorem dX6_isHalf_50 : decode cX6_isHalf 50 = .ok (.invokevirtual 29, 3) := by decide +kernel
theorem dX6_isHalf_53 : decode cX6_isHalf 53 = .ok (.aload_n 0, 1) := by decide +kernel
theorem dX6_isHalf_54 : decode cX6_isHalf 54 = .ok (.getfield 18, 3) := by decide +kernel
theorem dX6_isHalf_57 : decode cX6_isHalf 57 = .ok (.iload_n 1, 1) := by decide +kernel
theorem dX6_isHalf_58 : decode cX6_isHalf 58 = .ok (.iaload, 1) := by decide +kernel
theorem dX6_isHalf_59 : decode cX6_isHalf 59 = .ok (.if_icmp .ne 7, 3) := by decide +kernel
theorem dX6_isHalf_62 : decode cX6_isHalf 62 = .ok (.iconst 1, 1) := by decide +kernel
theorem dX6_isHalf_63 : decode cX6_isHalf 63 = .ok (.goto 4, 3) := by decide +kernel
theorem dX6_isHalf_66 : decode cX6_isHalf 66 = .ok (.iconst 0, 1) := by decide +kernel
theorem dX6_isHalf_67 : decode cX6_isHalf 67 = .ok (.ireturn, 1) := by decide +kernel
theorem dX1_pairCode_0 : decode cX1_pairCode 0 = .ok (.aload_n 2, 1) := by decide +kernel
theorem dX1_pairCode_1 : decode cX1_pairCode 1 = .ok (.iload_n 3, 1) := by decide +kernel
theorem dX1_pairCode_2 : decode cX1_pairCode 2 = .ok (.invokevirtual 34, 3) := by decide +kernel
theorem dX1_pairCode_5 : decode cX1_pairCode 5 = .ok (.istore 4, 2) := by decide +kernel
theorem dX1_pairCode_7 : decode cX1_pairCode 7 = .ok (.aload_n 2, 1) := by decide +kernel
theorem dX1_pairCode_8 : decode cX1_pairCode 8 = .ok (.iload_n 3, 1) := by decide +kernel
theorem dX1_pairCode_9 : decode cX1_pairCode 9 = .ok (.iconst 1, 1) := by decide +kernel
theorem dX1_pairCode_10 : decode cX1_pairCode 10 = .ok (.iadd, 1) := by decide +kernel
theorem dX1_pairCode_11 : decode cX1_pairCode 11 = .ok (.invokevirtual 34, 3) := by decide +kernel
theorem dX1_pairCode_14 : decode cX1_pairCode 14 = .ok (.istore 5, 2) := by decide +kernel
theorem dX1_pairCode_16 : decode cX1_pairCode 16 = .ok (.aload_n 0, 1) := by decide +kernel
theorem dX1_pairCode_17 : decode cX1_pairCode 17 = .ok (.iload 4, 2) := by decide +kernel
theorem dX1_pairCode_19 : decode cX1_pairCode 19 = .ok (.invokevirtual 40, 3) := by decide +kernel
theorem dX1_pairCode_22 : decode cX1_pairCode 22 = .ok (.istore 6, 2) := by decide +kernel
theorem dX1_pairCode_24 : decode cX1_pairCode 24 = .ok (.iconst 0, 1) := by decide +kernel
theorem dX1_pairCode_25 : decode cX1_pairCode 25 = .ok (.istore 7, 2) := by decide +kernel
theorem dX1_pairCode_27 : decode cX1_pairCode 27 = .ok (.iload 7, 2) := by decide +kernel
theorem dX1_pairCode_29 : decode cX1_pairCode 29 = .ok (.sipush 256, 3) := by decide +kernel
theorem dX1_pairCode_32 : decode cX1_pairCode 32 = .ok (.if_icmp .ge 64, 3) := by decide +kernel
theorem dX1_pairCode_35 : decode cX1_pairCode 35 = .ok (.iload 6, 2) := by decide +kernel
theorem dX1_pairCode_37 : decode cX1_pairCode 37 = .ok (.ifCond .lt 59, 3) := by decide +kernel
theorem dX1_pairCode_40 : decode cX1_pairCode 40 = .ok (.iload 6, 2) := by decide +kernel
theorem dX1_pairCode_42 : decode cX1_pairCode 42 = .ok (.sipush 256, 3) := by decide +kernel
theorem dX1_pairCode_45 : decode cX1_pairCode 45 = .ok (.if_icmp .ge 51, 3) := by decide +kernel
theorem dX1_pairCode_48 : decode cX1_pairCode 48 = .ok (.aload_n 2, 1) := by decide +kernel
theorem dX1_pairCode_49 : decode cX1_pairCode 49 = .ok (.iload_n 3, 1) := by decide +kernel
theorem dX1_pairCode_50 : decode cX1_pairCode 50 = .ok (.aload_n 1, 1) := by decide +kernel
theorem dX1_pairCode_51 : decode cX1_pairCode 51 = .ok (.iload 6, 2) := by decide +kernel
theorem dX1_pairCode_53 : decode cX1_pairCode 53 = .ok (.iconst 0, 1) := by decide +kernel
theorem dX1_pairCode_54 : decode cX1_pairCode 54 = .ok (.iload 4, 2) := by decide +kernel
theorem dX1_pairCode_56 : decode cX1_pairCode 56 = .ok (.invokevirtual 43, 3) := by decide +kernel
theorem dX1_pairCode_59 : decode cX1_pairCode 59 = .ok (.ifCond .eq 22, 3) := by decide +kernel
theorem dX1_pairCode_62 : decode cX1_pairCode 62 = .ok (.aload_n 2, 1) := by decide +kernel
theorem dX1_pairCode_63 : decode cX1_pairCode 63 = .ok (.iload_n 3, 1) := by decide +kernel
theorem dX1_pairCode_64 : decode cX1_pairCode 64 = .ok (.iconst 1, 1) := by decide +kernel
theorem dX1_pairCode_65 : decode cX1_pairCode 65 = .ok (.iadd, 1) := by decide +kernel
theorem dX1_pairCode_66 : decode cX1_pairCode 66 = .ok (.aload_n 1, 1) := by decide +kernel
theorem dX1_pairCode_67 : decode cX1_pairCode 67 = .ok (.iload 6, 2) := by decide +kernel
theorem dX1_pairCode_69 : decode cX1_pairCode 69 = .ok (.iconst 3, 1) := by decide +kernel
theorem dX1_pairCode_70 : decode cX1_pairCode 70 = .ok (.iload 5, 2) := by decide +kernel
theorem dX1_pairCode_72 : decode cX1_pairCode 72 = .ok (.invokevirtual 43, 3) := by decide +kernel
theorem dX1_pairCode_75 : decode cX1_pairCode 75 = .ok (.ifCond .eq 6, 3) := by decide +kernel
theorem dX1_pairCode_78 : decode cX1_pairCode 78 = .ok (.iload 6, 2) := by decide +kernel
theorem dX1_pairCode_80 : decode cX1_pairCode 80 = .ok (.ireturn, 1) := by decide +kernel
theorem dX1_pairCode_81 : decode cX1_pairCode 81 = .ok (.aload_n 0, 1) := by decide +kernel
theorem dX1_pairCode_82 : decode cX1_pairCode 82 = .ok (.getfield 15, 3) := by decide +kernel
theorem dX1_pairCode_85 : decode cX1_pairCode 85 = .ok (.iload 6, 2) := by decide +kernel
theorem dX1_pairCode_87 : decode cX1_pairCode 87 = .ok (.iaload, 1) := by decide +kernel
theorem dX1_pairCode_88 : decode cX1_pairCode 88 = .ok (.istore 6, 2) := by decide +kernel
theorem dX1_pairCode_90 : decode cX1_pairCode 90 = .ok (.iinc 7 1, 3) := by decide +kernel
theorem dX1_pairCode_93 : decode cX1_pairCode 93 = .ok (.goto (-66), 3) := by decide +kernel
theorem dX1_pairCode_96 : decode cX1_pairCode 96 = .ok (.iconst (-1), 1) := by decide +kernel
theorem dX1_pairCode_97 : decode cX1_pairCode 97 = .ok (.ireturn, 1) := by decide +kernel
theorem dX1_singleCode_0 : decode cX1_singleCode 0 = .ok (.aload_n 0, 1) := by decide +kernel
theorem dX1_singleCode_1 : decode cX1_singleCode 1 = .ok (.iload 4, 2) := by decide +kernel
theorem dX1_singleCode_3 : decode cX1_singleCode 3 = .ok (.invokevirtual 40, 3) := by decide +kernel
theorem dX1_singleCode_6 : decode cX1_singleCode 6 = .ok (.istore 5, 2) := by decide +kernel
theorem dX1_singleCode_8 : decode cX1_singleCode 8 = .ok (.iconst 0, 1) := by decide +kernel
theorem dX1_singleCode_9 : decode cX1_singleCode 9 = .ok (.istore 6, 2) := by decide +kernel
theorem dX1_singleCode_11 : decode cX1_singleCode 11 = .ok (.iload 6, 2) := by decide +kernel
theorem dX1_singleCode_13 : decode cX1_singleCode 13 = .ok (.sipush 256, 3) := by decide +kernel
theorem dX1_singleCode_16 : decode cX1_singleCode 16 = .ok (.if_icmp .ge 58, 3) := by decide +kernel
theorem dX1_singleCode_19 : decode cX1_singleCode 19 = .ok (.iload 5, 2) := by decide +kernel
theorem dX1_singleCode_21 : decode cX1_singleCode 21 = .ok (.ifCond .lt 53, 3) := by decide +kernel
theorem dX1_singleCode_24 : decode cX1_singleCode 24 = .ok (.iload 5, 2) := by decide +kernel
theorem dX1_singleCode_26 : decode cX1_singleCode 26 = .ok (.sipush 256, 3) := by decide +kernel
theorem dX1_singleCode_29 : decode cX1_singleCode 29 = .ok (.if_icmp .ge 45, 3) := by decide +kernel
theorem dX1_singleCode_32 : decode cX1_singleCode 32 = .ok (.aload_n 1, 1) := by decide +kernel
theorem dX1_singleCode_33 : decode cX1_singleCode 33 = .ok (.iload 5, 2) := by decide +kernel
theorem dX1_singleCode_35 : decode cX1_singleCode 35 = .ok (.iconst 3, 1) := by decide +kernel
theorem dX1_singleCode_36 : decode cX1_singleCode 36 = .ok (.invokevirtual 24, 3) := by decide +kernel
theorem dX1_singleCode_39 : decode cX1_singleCode 39 = .ok (.ifCond .ne 20, 3) := by decide +kernel
theorem dX1_singleCode_42 : decode cX1_singleCode 42 = .ok (.aload_n 2, 1) := by decide +kernel
theorem dX1_singleCode_43 : decode cX1_singleCode 43 = .ok (.iload_n 3, 1) := by decide +kernel
theorem dX1_singleCode_44 : decode cX1_singleCode 44 = .ok (.aload_n 1, 1) := by decide +kernel
theorem dX1_singleCode_45 : decode cX1_singleCode 45 = .ok (.iload 5, 2) := by decide +kernel
theorem dX1_singleCode_47 : decode cX1_singleCode 47 = .ok (.iconst 0, 1) := by decide +kernel
theorem dX1_singleCode_48 : decode cX1_singleCode 48 = .ok (.iload 4, 2) := by decide +kernel
theorem dX1_singleCode_50 : decode cX1_singleCode 50 = .ok (.invokevirtual 43, 3) := by decide +kernel
theorem dX1_singleCode_53 : decode cX1_singleCode 53 = .ok (.ifCond .eq 6, 3) := by decide +kernel
theorem dX1_singleCode_56 : decode cX1_singleCode 56 = .ok (.iload 5, 2) := by decide +kernel
theorem dX1_singleCode_58 : decode cX1_singleCode 58 = .ok (.ireturn, 1) := by decide +kernel
theorem dX1_singleCode_59 : decode cX1_singleCode 59 = .ok (.aload_n 0, 1) := by decide +kernel
theorem dX1_singleCode_60 : decode cX1_singleCode 60 = .ok (.getfield 15, 3) := by decide +kernel
theorem dX1_singleCode_63 : decode cX1_singleCode 63 = .ok (.iload 5, 2) := by decide +kernel
theorem dX1_singleCode_65 : decode cX1_singleCode 65 = .ok (.iaload, 1) := by decide +kernel
theorem dX1_singleCode_66 : decode cX1_singleCode 66 = .ok (.istore 5, 2) := by decide +kernel
theorem dX1_singleCode_68 : decode cX1_singleCode 68 = .ok (.iinc 6 1, 3) := by decide +kernel
theorem dX1_singleCode_71 : decode cX1_singleCode 71 = .ok (.goto (-60), 3) := by decide +kernel
theorem dX1_singleCode_74 : decode cX1_singleCode 74 = .ok (.iconst (-1), 1) := by decide +kernel
theorem dX1_singleCode_75 : decode cX1_singleCode 75 = .ok (.ireturn, 1) := by decide +kernel
theorem dX5_tellCodes_0 : decode cX5_tellCodes 0 = .ok (.aload_n 0, 1) := by decide +kernel
theorem dX5_tellCodes_1 : decode cX5_tellCodes 1 = .ok (.getfield 50, 3) := by decide +kernel
theorem dX5_tellCodes_4 : decode cX5_tellCodes 4 = .ok (.invokevirtual 121, 3) := by decide +kernel
theorem dX5_tellCodes_7 : decode cX5_tellCodes 7 = .ok (.iconst 0, 1) := by decide +kernel
theorem dX5_tellCodes_8 : decode cX5_tellCodes 8 = .ok (.istore_n 2, 1) := by decide +kernel
theorem dX5_tellCodes_9 : decode cX5_tellCodes 9 = .ok (.iload_n 2, 1) := by decide +kernel
theorem dX5_tellCodes_10 : decode cX5_tellCodes 10 = .ok (.aload_n 0, 1) := by decide +kernel
theorem dX5_tellCodes_11 : decode cX5_tellCodes 11 = .ok (.getfield 21, 3) := by decide +kernel
theorem dX5_tellCodes_14 : decode cX5_tellCodes 14 = .ok (.invokevirtual 172, 3) := by decide +kernel
theorem dX5_tellCodes_17 : decode cX5_tellCodes 17 = .ok (.if_icmp .ge 123, 3) := by decide +kernel
theorem dX5_tellCodes_20 : decode cX5_tellCodes 20 = .ok (.aload_n 0, 1) := by decide +kernel
theorem dX5_tellCodes_21 : decode cX5_tellCodes 21 = .ok (.getfield 28, 3) := by decide +kernel
theorem dX5_tellCodes_24 : decode cX5_tellCodes 24 = .ok (.aload_n 1, 1) := by decide +kernel
theorem dX5_tellCodes_25 : decode cX5_tellCodes 25 = .ok (.aload_n 0, 1) := by decide +kernel
theorem dX5_tellCodes_26 : decode cX5_tellCodes 26 = .ok (.getfield 21, 3) := by decide +kernel
theorem dX5_tellCodes_29 : decode cX5_tellCodes 29 = .ok (.iload_n 2, 1) := by decide +kernel
theorem dX5_tellCodes_30 : decode cX5_tellCodes 30 = .ok (.invokevirtual 173, 3) := by decide +kernel
theorem dX5_tellCodes_33 : decode cX5_tellCodes 33 = .ok (.istore_n 3, 1) := by decide +kernel
theorem dX5_tellCodes_34 : decode cX5_tellCodes 34 = .ok (.iload_n 3, 1) := by decide +kernel
theorem dX5_tellCodes_35 : decode cX5_tellCodes 35 = .ok (.ifCond .lt 17, 3) := by decide +kernel
theorem dX5_tellCodes_38 : decode cX5_tellCodes 38 = .ok (.aload_n 0, 1) := by decide +kernel
theorem dX5_tellCodes_39 : decode cX5_tellCodes 39 = .ok (.getfield 50, 3) := by decide +kernel
theorem dX5_tellCodes_42 : decode cX5_tellCodes 42 = .ok (.iload_n 3, 1) := by decide +kernel
theorem dX5_tellCodes_43 : decode cX5_tellCodes 43 = .ok (.invokevirtual 96, 3) := by decide +kernel
theorem dX5_tellCodes_46 : decode cX5_tellCodes 46 = .ok (.iinc 2 1, 3) := by decide +kernel
theorem dX5_tellCodes_49 : decode cX5_tellCodes 49 = .ok (.goto 85, 3) := by decide +kernel
theorem dX5_tellCodes_52 : decode cX5_tellCodes 52 = .ok (.aload_n 0, 1) := by decide +kernel
theorem dX5_tellCodes_53 : decode cX5_tellCodes 53 = .ok (.getfield 28, 3) := by decide +kernel
theorem dX5_tellCodes_56 : decode cX5_tellCodes 56 = .ok (.aload_n 1, 1) := by decide +kernel
theorem dX5_tellCodes_57 : decode cX5_tellCodes 57 = .ok (.aload_n 0, 1) := by decide +kernel
theorem dX5_tellCodes_58 : decode cX5_tellCodes 58 = .ok (.getfield 21, 3) := by decide +kernel
theorem dX5_tellCodes_61 : decode cX5_tellCodes 61 = .ok (.iload_n 2, 1) := by decide +kernel
theorem dX5_tellCodes_62 : decode cX5_tellCodes 62 = .ok (.aload_n 0, 1) := by decide +kernel
theorem dX5_tellCodes_63 : decode cX5_tellCodes 63 = .ok (.getfield 21, 3) := by decide +kernel
theorem dX5_tellCodes_66 : decode cX5_tellCodes 66 = .ok (.iload_n 2, 1) := by decide +kernel
theorem dX5_tellCodes_67 : decode cX5_tellCodes 67 = .ok (.invokevirtual 177, 3) := by decide +kernel
theorem dX5_tellCodes_70 : decode cX5_tellCodes 70 = .ok (.invokevirtual 180, 3) := by decide +kernel
theorem dX5_tellCodes_73 : decode cX5_tellCodes 73 = .ok (.istore_n 3, 1) := by decide +kernel
theorem dX5_tellCodes_74 : decode cX5_tellCodes 74 = .ok (.iload_n 3, 1) := by decide +kernel
theorem dX5_tellCodes_75 : decode cX5_tellCodes 75 = .ok (.ifCond .lt 14, 3) := by decide +kernel
theorem dX5_tellCodes_78 : decode cX5_tellCodes 78 = .ok (.aload_n 0, 1) := by decide +kernel
theorem dX5_tellCodes_79 : decode cX5_tellCodes 79 = .ok (.getfield 50, 3) := by decide +kernel
theorem dX5_tellCodes_82 : decode cX5_tellCodes 82 = .ok (.iload_n 3, 1) := by decide +kernel
theorem dX5_tellCodes_83 : decode cX5_tellCodes 83 = .ok (.invokevirtual 96, 3) := by decide +kernel
theorem dX5_tellCodes_86 : decode cX5_tellCodes 86 = .ok (.goto 48, 3) := by decide +kernel
theorem dX5_tellCodes_89 : decode cX5_tellCodes 89 = .ok (.aload_n 0, 1) := by decide +kernel
theorem dX5_tellCodes_90 : decode cX5_tellCodes 90 = .ok (.getfield 28, 3) := by decide +kernel
theorem dX5_tellCodes_93 : decode cX5_tellCodes 93 = .ok (.aload_n 1, 1) := by decide +kernel
theorem dX5_tellCodes_94 : decode cX5_tellCodes 94 = .ok (.aload_n 0, 1) := by decide +kernel
theorem dX5_tellCodes_95 : decode cX5_tellCodes 95 = .ok (.getfield 21, 3) := by decide +kernel
theorem dX5_tellCodes_98 : decode cX5_tellCodes 98 = .ok (.iload_n 2, 1) := by decide +kernel
theorem dX5_tellCodes_99 : decode cX5_tellCodes 99 = .ok (.iconst 0, 1) := by decide +kernel
theorem dX5_tellCodes_100 : decode cX5_tellCodes 100 = .ok (.invokevirtual 180, 3) := by decide +kernel
theorem dX5_tellCodes_103 : decode cX5_tellCodes 103 = .ok (.istore_n 3, 1) := by decide +kernel
theorem dX5_tellCodes_104 : decode cX5_tellCodes 104 = .ok (.iload_n 3, 1) := by decide +kernel
theorem dX5_tellCodes_105 : decode cX5_tellCodes 105 = .ok (.ifCond .ge 5, 3) := by decide +kernel
theorem dX5_tellCodes_108 : decode cX5_tellCodes 108 = .ok (.iconst 0, 1) := by decide +kernel
theorem dX5_tellCodes_109 : decode cX5_tellCodes 109 = .ok (.ireturn, 1) := by decide +kernel
theorem dX5_tellCodes_110 : decode cX5_tellCodes 110 = .ok (.aload_n 0, 1) := by decide +kernel
theorem dX5_tellCodes_111 : decode cX5_tellCodes 111 = .ok (.getfield 50, 3) := by decide +kernel
theorem dX5_tellCodes_114 : decode cX5_tellCodes 114 = .ok (.iload_n 3, 1) := by decide +kernel
theorem dX5_tellCodes_115 : decode cX5_tellCodes 115 = .ok (.invokevirtual 96, 3) := by decide +kernel
theorem dX5_tellCodes_118 : decode cX5_tellCodes 118 = .ok (.aload_n 0, 1) := by decide +kernel
theorem dX5_tellCodes_119 : decode cX5_tellCodes 119 = .ok (.getfield 50, 3) := by decide +kernel
theorem dX5_tellCodes_122 : decode cX5_tellCodes 122 = .ok (.aload_n 0, 1) := by decide +kernel
theorem dX5_tellCodes_123 : decode cX5_tellCodes 123 = .ok (.getfield 21, 3) := by decide +kernel
theorem dX5_tellCodes_126 : decode cX5_tellCodes 126 = .ok (.iload_n 2, 1) := by decide +kernel
theorem dX5_tellCodes_127 : decode cX5_tellCodes 127 = .ok (.invokevirtual 177, 3) := by decide +kernel
theorem dX5_tellCodes_130 : decode cX5_tellCodes 130 = .ok (.i2l, 1) := by decide +kernel
theorem dX5_tellCodes_131 : decode cX5_tellCodes 131 = .ok (.invokevirtual 99, 3) := by decide +kernel
theorem dX5_tellCodes_134 : decode cX5_tellCodes 134 = .ok (.iinc 2 1, 3) := by decide +kernel
theorem dX5_tellCodes_137 : decode cX5_tellCodes 137 = .ok (.goto (-128), 3) := by decide +kernel
theorem dX5_tellCodes_140 : decode cX5_tellCodes 140 = .ok (.iconst 1, 1) := by decide +kernel
theorem dX5_tellCodes_141 : decode cX5_tellCodes 141 = .ok (.ireturn, 1) := by decide +kernel
theorem dX5_tellSizes_0 : decode cX5_tellSizes 0 = .ok (.aload_n 0, 1) := by decide +kernel
theorem dX5_tellSizes_1 : decode cX5_tellSizes 1 = .ok (.getfield 46, 3) := by decide +kernel
theorem dX5_tellSizes_4 : decode cX5_tellSizes 4 = .ok (.invokevirtual 72, 3) := by decide +kernel
theorem dX5_tellSizes_7 : decode cX5_tellSizes 7 = .ok (.aload_n 0, 1) := by decide +kernel
theorem dX5_tellSizes_8 : decode cX5_tellSizes 8 = .ok (.getfield 50, 3) := by decide +kernel
theorem dX5_tellSizes_11 : decode cX5_tellSizes 11 = .ok (.invokevirtual 72, 3) := by decide +kernel
theorem dX5_tellSizes_14 : decode cX5_tellSizes 14 = .ok (.iadd, 1) := by decide +kernel
theorem dX5_tellSizes_15 : decode cX5_tellSizes 15 = .ok (.aload_n 0, 1) := by decide +kernel
theorem dX5_tellSizes_16 : decode cX5_tellSizes 16 = .ok (.getfield 53, 3) := by decide +kernel
theorem dX5_tellSizes_19 : decode cX5_tellSizes 19 = .ok (.invokevirtual 72, 3) := by decide +kernel
theorem dX5_tellSizes_22 : decode cX5_tellSizes 22 = .ok (.iadd, 1) := by decide +kernel
theorem dX5_tellSizes_23 : decode cX5_tellSizes 23 = .ok (.istore 4, 2) := by decide +kernel
theorem dX5_tellSizes_25 : decode cX5_tellSizes 25 = .ok (.iload_n 2, 1) := by decide +kernel
theorem dX5_tellSizes_26 : decode cX5_tellSizes 26 = .ok (.i2l, 1) := by decide +kernel
theorem dX5_tellSizes_27 : decode cX5_tellSizes 27 = .ok (.invokestatic 153, 3) := by decide +kernel
theorem dX5_tellSizes_30 : decode cX5_tellSizes 30 = .ok (.iconst 1, 1) := by decide +kernel
theorem dX5_tellSizes_31 : decode cX5_tellSizes 31 = .ok (.iadd, 1) := by decide +kernel
theorem dX5_tellSizes_32 : decode cX5_tellSizes 32 = .ok (.aload_n 0, 1) := by decide +kernel
theorem dX5_tellSizes_33 : decode cX5_tellSizes 33 = .ok (.getfield 46, 3) := by decide +kernel
theorem dX5_tellSizes_36 : decode cX5_tellSizes 36 = .ok (.invokevirtual 72, 3) := by decide +kernel
theorem dX5_tellSizes_39 : decode cX5_tellSizes 39 = .ok (.i2l, 1) := by decide +kernel
theorem dX5_tellSizes_40 : decode cX5_tellSizes 40 = .ok (.invokestatic 153, 3) := by decide +kernel
theorem dX5_tellSizes_43 : decode cX5_tellSizes 43 = .ok (.iadd, 1) := by decide +kernel
theorem dX5_tellSizes_44 : decode cX5_tellSizes 44 = .ok (.aload_n 0, 1) := by decide +kernel
theorem dX5_tellSizes_45 : decode cX5_tellSizes 45 = .ok (.getfield 50, 3) := by decide +kernel
theorem dX5_tellSizes_48 : decode cX5_tellSizes 48 = .ok (.invokevirtual 72, 3) := by decide +kernel
theorem dX5_tellSizes_51 : decode cX5_tellSizes 51 = .ok (.i2l, 1) := by decide +kernel
theorem dX5_tellSizes_52 : decode cX5_tellSizes 52 = .ok (.invokestatic 153, 3) := by decide +kernel
theorem dX5_tellSizes_55 : decode cX5_tellSizes 55 = .ok (.iadd, 1) := by decide +kernel
theorem dX5_tellSizes_56 : decode cX5_tellSizes 56 = .ok (.aload_n 0, 1) := by decide +kernel
theorem dX5_tellSizes_57 : decode cX5_tellSizes 57 = .ok (.getfield 53, 3) := by decide +kernel
theorem dX5_tellSizes_60 : decode cX5_tellSizes 60 = .ok (.invokevirtual 72, 3) := by decide +kernel
theorem dX5_tellSizes_63 : decode cX5_tellSizes 63 = .ok (.i2l, 1) := by decide +kernel
theorem dX5_tellSizes_64 : decode cX5_tellSizes 64 = .ok (.invokestatic 153, 3) := by decide +kernel
theorem dX5_tellSizes_67 : decode cX5_tellSizes 67 = .ok (.iadd, 1) := by decide +kernel
theorem dX5_tellSizes_68 : decode cX5_tellSizes 68 = .ok (.istore 5, 2) := by decide +kernel
theorem dX5_tellSizes_70 : decode cX5_tellSizes 70 = .ok (.aload_n 1, 1) := by decide +kernel
theorem dX5_tellSizes_71 : decode cX5_tellSizes 71 = .ok (.iload 5, 2) := by decide +kernel
theorem dX5_tellSizes_73 : decode cX5_tellSizes 73 = .ok (.iload_n 3, 1) := by decide +kernel
theorem dX5_tellSizes_74 : decode cX5_tellSizes 74 = .ok (.iadd, 1) := by decide +kernel
theorem dX5_tellSizes_75 : decode cX5_tellSizes 75 = .ok (.iload 4, 2) := by decide +kernel
theorem dX5_tellSizes_77 : decode cX5_tellSizes 77 = .ok (.iadd, 1) := by decide +kernel
theorem dX5_tellSizes_78 : decode cX5_tellSizes 78 = .ok (.i2l, 1) := by decide +kernel
theorem dX5_tellSizes_79 : decode cX5_tellSizes 79 = .ok (.invokevirtual 99, 3) := by decide +kernel
theorem dX5_tellSizes_82 : decode cX5_tellSizes 82 = .ok (.aload_n 1, 1) := by decide +kernel
theorem dX5_tellSizes_83 : decode cX5_tellSizes 83 = .ok (.iload_n 2, 1) := by decide +kernel
theorem dX5_tellSizes_84 : decode cX5_tellSizes 84 = .ok (.i2l, 1) := by decide +kernel
theorem dX5_tellSizes_85 : decode cX5_tellSizes 85 = .ok (.invokevirtual 99, 3) := by decide +kernel
theorem dX5_tellSizes_88 : decode cX5_tellSizes 88 = .ok (.aload_n 1, 1) := by decide +kernel
theorem dX5_tellSizes_89 : decode cX5_tellSizes 89 = .ok (.iconst 0, 1) := by decide +kernel
theorem dX5_tellSizes_90 : decode cX5_tellSizes 90 = .ok (.invokevirtual 96, 3) := by decide +kernel
theorem dX5_tellSizes_93 : decode cX5_tellSizes 93 = .ok (.aload_n 1, 1) := by decide +kernel
theorem dX5_tellSizes_94 : decode cX5_tellSizes 94 = .ok (.aload_n 0, 1) := by decide +kernel
theorem dX5_tellSizes_95 : decode cX5_tellSizes 95 = .ok (.getfield 46, 3) := by decide +kernel
theorem dX5_tellSizes_98 : decode cX5_tellSizes 98 = .ok (.invokevirtual 72, 3) := by decide +kernel
theorem dX5_tellSizes_101 : decode cX5_tellSizes 101 = .ok (.i2l, 1) := by decide +kernel
theorem dX5_tellSizes_102 : decode cX5_tellSizes 102 = .ok (.invokevirtual 99, 3) := by decide +kernel
theorem dX5_tellSizes_105 : decode cX5_tellSizes 105 = .ok (.aload_n 1, 1) := by decide +kernel
theorem dX5_tellSizes_106 : decode cX5_tellSizes 106 = .ok (.aload_n 0, 1) := by decide +kernel
theorem dX5_tellSizes_107 : decode cX5_tellSizes 107 = .ok (.getfield 50, 3) := by decide +kernel
theorem dX5_tellSizes_110 : decode cX5_tellSizes 110 = .ok (.invokevirtual 72, 3) := by decide +kernel
theorem dX5_tellSizes_113 : decode cX5_tellSizes 113 = .ok (.i2l, 1) := by decide +kernel
theorem dX5_tellSizes_114 : decode cX5_tellSizes 114 = .ok (.invokevirtual 99, 3) := by decide +kernel
theorem dX5_tellSizes_117 : decode cX5_tellSizes 117 = .ok (.aload_n 1, 1) := by decide +kernel
theorem dX5_tellSizes_118 : decode cX5_tellSizes 118 = .ok (.aload_n 0, 1) := by decide +kernel
theorem dX5_tellSizes_119 : decode cX5_tellSizes 119 = .ok (.getfield 53, 3) := by decide +kernel
theorem dX5_tellSizes_122 : decode cX5_tellSizes 122 = .ok (.invokevirtual 72, 3) := by decide +kernel
theorem dX5_tellSizes_125 : decode cX5_tellSizes 125 = .ok (.i2l, 1) := by decide +kernel
theorem dX5_tellSizes_126 : decode cX5_tellSizes 126 = .ok (.invokevirtual 99, 3) := by decide +kernel
theorem dX5_tellSizes_129 : decode cX5_tellSizes 129 = .ok (.return_, 1) := by decide +kernel
theorem dX8_sum_0 : decode cX8_sum 0 = .ok (.iconst 1, 1) := by decide +kernel
theorem dX8_sum_1 : decode cX8_sum 1 = .ok (.istore_n 3, 1) := by decide +kernel
theorem dX8_sum_2 : decode cX8_sum 2 = .ok (.iconst 0, 1) := by decide +kernel
theorem dX8_sum_3 : decode cX8_sum 3 = .ok (.istore 4, 2) := by decide +kernel
theorem dX8_sum_5 : decode cX8_sum 5 = .ok (.iload_n 1, 1) := by decide +kernel
theorem dX8_sum_6 : decode cX8_sum 6 = .ok (.istore 5, 2) := by decide +kernel
theorem dX8_sum_8 : decode cX8_sum 8 = .ok (.iload 5, 2) := by decide +kernel
theorem dX8_sum_10 : decode cX8_sum 10 = .ok (.iload_n 2, 1) := by decide +kernel
theorem dX8_sum_11 : decode cX8_sum 11 = .ok (.if_icmp .ge 30, 3) := by decide +kernel
theorem dX8_sum_14 : decode cX8_sum 14 = .ok (.iload_n 3, 1) := by decide +kernel
theorem dX8_sum_15 : decode cX8_sum 15 = .ok (.aload_n 0, 1) := by decide +kernel
theorem dX8_sum_16 : decode cX8_sum 16 = .ok (.iload 5, 2) := by decide +kernel
theorem dX8_sum_18 : decode cX8_sum 18 = .ok (.invokevirtual 50, 3) := by decide +kernel
theorem dX8_sum_21 : decode cX8_sum 21 = .ok (.iadd, 1) := by decide +kernel
theorem dX8_sum_22 : decode cX8_sum 22 = .ok (.ldc 54, 2) := by decide +kernel
theorem dX8_sum_24 : decode cX8_sum 24 = .ok (.irem, 1) := by decide +kernel
theorem dX8_sum_25 : decode cX8_sum 25 = .ok (.istore_n 3, 1) := by decide +kernel
theorem dX8_sum_26 : decode cX8_sum 26 = .ok (.iload 4, 2) := by decide +kernel
theorem dX8_sum_28 : decode cX8_sum 28 = .ok (.iload_n 3, 1) := by decide +kernel
theorem dX8_sum_29 : decode cX8_sum 29 = .ok (.iadd, 1) := by decide +kernel
theorem dX8_sum_30 : decode cX8_sum 30 = .ok (.ldc 54, 2) := by decide +kernel
theorem dX8_sum_32 : decode cX8_sum 32 = .ok (.irem, 1) := by decide +kernel
theorem dX8_sum_33 : decode cX8_sum 33 = .ok (.istore 4, 2) := by decide +kernel
theorem dX8_sum_35 : decode cX8_sum 35 = .ok (.iinc 5 1, 3) := by decide +kernel
theorem dX8_sum_38 : decode cX8_sum 38 = .ok (.goto (-30), 3) := by decide +kernel
theorem dX8_sum_41 : decode cX8_sum 41 = .ok (.ldc2_w 55, 3) := by decide +kernel
theorem dX8_sum_44 : decode cX8_sum 44 = .ok (.iload 4, 2) := by decide +kernel
theorem dX8_sum_46 : decode cX8_sum 46 = .ok (.i2l, 1) := by decide +kernel
theorem dX8_sum_47 : decode cX8_sum 47 = .ok (.lmul, 1) := by decide +kernel
theorem dX8_sum_48 : decode cX8_sum 48 = .ok (.iload_n 3, 1) := by decide +kernel
theorem dX8_sum_49 : decode cX8_sum 49 = .ok (.i2l, 1) := by decide +kernel
theorem dX8_sum_50 : decode cX8_sum 50 = .ok (.ladd, 1) := by decide +kernel
theorem dX8_sum_51 : decode cX8_sum 51 = .ok (.lreturn, 1) := by decide +kernel
theorem dX5_makeWindow_0 : decode cX5_makeWindow 0 = .ok (.sipush 2048, 3) := by decide +kernel
theorem dX5_makeWindow_3 : decode cX5_makeWindow 3 = .ok (.aload_n 1, 1) := by decide +kernel
theorem dX5_makeWindow_4 : decode cX5_makeWindow 4 = .ok (.invokevirtual 72, 3) := by decide +kernel
theorem dX5_makeWindow_7 : decode cX5_makeWindow 7 = .ok (.iload_n 2, 1) := by decide +kernel
theorem dX5_makeWindow_8 : decode cX5_makeWindow 8 = .ok (.isub, 1) := by decide +kernel
theorem dX5_makeWindow_9 : decode cX5_makeWindow 9 = .ok (.invokestatic 80, 3) := by decide +kernel
theorem dX5_makeWindow_12 : decode cX5_makeWindow 12 = .ok (.istore 7, 2) := by decide +kernel
theorem dX5_makeWindow_14 : decode cX5_makeWindow 14 = .ok (.iconst 0, 1) := by decide +kernel
theorem dX5_makeWindow_15 : decode cX5_makeWindow 15 = .ok (.istore 8, 2) := by decide +kernel
theorem dX5_makeWindow_17 : decode cX5_makeWindow 17 = .ok (.iconst 0, 1) := by decide +kernel
theorem dX5_makeWindow_18 : decode cX5_makeWindow 18 = .ok (.istore 9, 2) := by decide +kernel
theorem dX5_makeWindow_20 : decode cX5_makeWindow 20 = .ok (.iload 4, 2) := by decide +kernel
theorem dX5_makeWindow_22 : decode cX5_makeWindow 22 = .ok (.iconst 1, 1) := by decide +kernel
theorem dX5_makeWindow_23 : decode cX5_makeWindow 23 = .ok (.iand, 1) := by decide +kernel
theorem dX5_makeWindow_24 : decode cX5_makeWindow 24 = .ok (.ifCond .eq 12, 3) := by decide +kernel
theorem dX5_makeWindow_27 : decode cX5_makeWindow 27 = .ok (.aload_n 3, 1) := by decide +kernel
theorem dX5_makeWindow_28 : decode cX5_makeWindow 28 = .ok (.invokevirtual 72, 3) := by decide +kernel
theorem dX5_makeWindow_31 : decode cX5_makeWindow 31 = .ok (.istore 9, 2) := by decide +kernel
theorem dX5_makeWindow_33 : decode cX5_makeWindow 33 = .ok (.goto 22, 3) := by decide +kernel
theorem dX5_makeWindow_36 : decode cX5_makeWindow 36 = .ok (.iload 4, 2) := by decide +kernel
theorem dX5_makeWindow_38 : decode cX5_makeWindow 38 = .ok (.iconst 2, 1) := by decide +kernel
theorem dX5_makeWindow_39 : decode cX5_makeWindow 39 = .ok (.iand, 1) := by decide +kernel
theorem dX5_makeWindow_40 : decode cX5_makeWindow 40 = .ok (.ifCond .eq 15, 3) := by decide +kernel
theorem dX5_makeWindow_43 : decode cX5_makeWindow 43 = .ok (.iload_n 2, 1) := by decide +kernel
theorem dX5_makeWindow_44 : decode cX5_makeWindow 44 = .ok (.sipush 2048, 3) := by decide +kernel
theorem dX5_makeWindow_47 : decode cX5_makeWindow 47 = .ok (.isub, 1) := by decide +kernel
theorem dX5_makeWindow_48 : decode cX5_makeWindow 48 = .ok (.istore 8, 2) := by decide +kernel
theorem dX5_makeWindow_50 : decode cX5_makeWindow 50 = .ok (.sipush 2048, 3) := by decide +kernel
theorem dX5_makeWindow_53 : decode cX5_makeWindow 53 = .ok (.istore 9, 2) := by decide +kernel
theorem dX5_makeWindow_55 : decode cX5_makeWindow 55 = .ok (.aload_n 0, 1) := by decide +kernel
theorem dX5_makeWindow_56 : decode cX5_makeWindow 56 = .ok (.getfield 12, 3) := by decide +kernel
theorem dX5_makeWindow_59 : decode cX5_makeWindow 59 = .ok (.aload_n 3, 1) := by decide +kernel
theorem dX5_makeWindow_60 : decode cX5_makeWindow 60 = .ok (.iload 8, 2) := by decide +kernel
theorem dX5_makeWindow_62 : decode cX5_makeWindow 62 = .ok (.iload 9, 2) := by decide +kernel
theorem dX5_makeWindow_64 : decode cX5_makeWindow 64 = .ok (.aload_n 1, 1) := by decide +kernel
theorem dX5_makeWindow_65 : decode cX5_makeWindow 65 = .ok (.iload_n 2, 1) := by decide +kernel
theorem dX5_makeWindow_66 : decode cX5_makeWindow 66 = .ok (.iload 7, 2) := by decide +kernel
theorem dX5_makeWindow_68 : decode cX5_makeWindow 68 = .ok (.invokevirtual 86, 3) := by decide +kernel
theorem dX5_makeWindow_71 : decode cX5_makeWindow 71 = .ok (.aload_n 0, 1) := by decide +kernel
theorem dX5_makeWindow_72 : decode cX5_makeWindow 72 = .ok (.iload 9, 2) := by decide +kernel
theorem dX5_makeWindow_74 : decode cX5_makeWindow 74 = .ok (.invokevirtual 89, 3) := by decide +kernel
theorem dX5_makeWindow_77 : decode cX5_makeWindow 77 = .ok (.aload_n 0, 1) := by decide +kernel
theorem dX5_makeWindow_78 : decode cX5_makeWindow 78 = .ok (.aload 5, 2) := by decide +kernel
theorem dX5_makeWindow_80 : decode cX5_makeWindow 80 = .ok (.invokevirtual 92, 3) := by decide +kernel
theorem dX5_makeWindow_83 : decode cX5_makeWindow 83 = .ok (.ifCond .ne 5, 3) := by decide +kernel
theorem dX5_makeWindow_86 : decode cX5_makeWindow 86 = .ok (.iconst 0, 1) := by decide +kernel
theorem dX5_makeWindow_87 : decode cX5_makeWindow 87 = .ok (.ireturn, 1) := by decide +kernel
theorem dX5_makeWindow_88 : decode cX5_makeWindow 88 = .ok (.aload 6, 2) := by decide +kernel
theorem dX5_makeWindow_90 : decode cX5_makeWindow 90 = .ok (.iload 4, 2) := by decide +kernel
theorem dX5_makeWindow_92 : decode cX5_makeWindow 92 = .ok (.invokevirtual 96, 3) := by decide +kernel
theorem dX5_makeWindow_95 : decode cX5_makeWindow 95 = .ok (.iload 9, 2) := by decide +kernel
theorem dX5_makeWindow_97 : decode cX5_makeWindow 97 = .ok (.ifCond .le 19, 3) := by decide +kernel
theorem dX5_makeWindow_100 : decode cX5_makeWindow 100 = .ok (.aload 6, 2) := by decide +kernel
theorem dX5_makeWindow_102 : decode cX5_makeWindow 102 = .ok (.iload 9, 2) := by decide +kernel
theorem dX5_makeWindow_104 : decode cX5_makeWindow 104 = .ok (.i2l, 1) := by decide +kernel
theorem dX5_makeWindow_105 : decode cX5_makeWindow 105 = .ok (.invokevirtual 99, 3) := by decide +kernel
theorem dX5_makeWindow_108 : decode cX5_makeWindow 108 = .ok (.aload 6, 2) := by decide +kernel
theorem dX5_makeWindow_110 : decode cX5_makeWindow 110 = .ok (.iload 8, 2) := by decide +kernel
theorem dX5_makeWindow_112 : decode cX5_makeWindow 112 = .ok (.i2l, 1) := by decide +kernel
theorem dX5_makeWindow_113 : decode cX5_makeWindow 113 = .ok (.invokevirtual 99, 3) := by decide +kernel
theorem dX5_makeWindow_116 : decode cX5_makeWindow 116 = .ok (.iload 4, 2) := by decide +kernel
theorem dX5_makeWindow_118 : decode cX5_makeWindow 118 = .ok (.iconst 4, 1) := by decide +kernel
theorem dX5_makeWindow_119 : decode cX5_makeWindow 119 = .ok (.iand, 1) := by decide +kernel
theorem dX5_makeWindow_120 : decode cX5_makeWindow 120 = .ok (.ifCond .eq 7, 3) := by decide +kernel
theorem dX5_makeWindow_123 : decode cX5_makeWindow 123 = .ok (.iconst 1, 1) := by decide +kernel
theorem dX5_makeWindow_124 : decode cX5_makeWindow 124 = .ok (.goto 4, 3) := by decide +kernel
theorem dX5_makeWindow_127 : decode cX5_makeWindow 127 = .ok (.iconst 0, 1) := by decide +kernel
theorem dX5_makeWindow_128 : decode cX5_makeWindow 128 = .ok (.istore 10, 2) := by decide +kernel
theorem dX5_makeWindow_130 : decode cX5_makeWindow 130 = .ok (.aload_n 0, 1) := by decide +kernel
theorem dX5_makeWindow_131 : decode cX5_makeWindow 131 = .ok (.aload 6, 2) := by decide +kernel
theorem dX5_makeWindow_133 : decode cX5_makeWindow 133 = .ok (.iload 7, 2) := by decide +kernel
theorem dX5_makeWindow_135 : decode cX5_makeWindow 135 = .ok (.iload 10, 2) := by decide +kernel
theorem dX5_makeWindow_137 : decode cX5_makeWindow 137 = .ok (.ifCond .eq 7, 3) := by decide +kernel
theorem dX5_makeWindow_140 : decode cX5_makeWindow 140 = .ok (.iconst 4, 1) := by decide +kernel
theorem dX5_makeWindow_141 : decode cX5_makeWindow 141 = .ok (.goto 4, 3) := by decide +kernel
theorem dX5_makeWindow_144 : decode cX5_makeWindow 144 = .ok (.iconst 0, 1) := by decide +kernel
theorem dX5_makeWindow_145 : decode cX5_makeWindow 145 = .ok (.invokevirtual 103, 3) := by decide +kernel
theorem dX5_makeWindow_148 : decode cX5_makeWindow 148 = .ok (.iload 10, 2) := by decide +kernel
theorem dX5_makeWindow_150 : decode cX5_makeWindow 150 = .ok (.ifCond .eq 18, 3) := by decide +kernel
theorem dX5_makeWindow_153 : decode cX5_makeWindow 153 = .ok (.aload 6, 2) := by decide +kernel
theorem dX5_makeWindow_155 : decode cX5_makeWindow 155 = .ok (.aload_n 1, 1) := by decide +kernel
theorem dX5_makeWindow_156 : decode cX5_makeWindow 156 = .ok (.iload_n 2, 1) := by decide +kernel
theorem dX5_makeWindow_157 : decode cX5_makeWindow 157 = .ok (.iload_n 2, 1) := by decide +kernel
theorem dX5_makeWindow_158 : decode cX5_makeWindow 158 = .ok (.iload 7, 2) := by decide +kernel
theorem dX5_makeWindow_160 : decode cX5_makeWindow 160 = .ok (.iadd, 1) := by decide +kernel
theorem dX5_makeWindow_161 : decode cX5_makeWindow 161 = .ok (.invokevirtual 107, 3) := by decide +kernel
theorem dX5_makeWindow_164 : decode cX5_makeWindow 164 = .ok (.iconst 4, 1) := by decide +kernel
theorem dX5_makeWindow_165 : decode cX5_makeWindow 165 = .ok (.invokevirtual 111, 3) := by decide +kernel
theorem dX5_makeWindow_168 : decode cX5_makeWindow 168 = .ok (.aload 6, 2) := by decide +kernel
theorem dX5_makeWindow_170 : decode cX5_makeWindow 170 = .ok (.aload_n 0, 1) := by decide +kernel
theorem dX5_makeWindow_171 : decode cX5_makeWindow 171 = .ok (.getfield 46, 3) := by decide +kernel
theorem dX5_makeWindow_174 : decode cX5_makeWindow 174 = .ok (.iconst 0, 1) := by decide +kernel
theorem dX5_makeWindow_175 : decode cX5_makeWindow 175 = .ok (.aload_n 0, 1) := by decide +kernel
theorem dX5_makeWindow_176 : decode cX5_makeWindow 176 = .ok (.getfield 46, 3) := by decide +kernel
theorem dX5_makeWindow_179 : decode cX5_makeWindow 179 = .ok (.invokevirtual 72, 3) := by decide +kernel
theorem dX5_makeWindow_182 : decode cX5_makeWindow 182 = .ok (.invokevirtual 115, 3) := by decide +kernel
theorem dX5_makeWindow_185 : decode cX5_makeWindow 185 = .ok (.aload 6, 2) := by decide +kernel
theorem dX5_makeWindow_187 : decode cX5_makeWindow 187 = .ok (.aload_n 0, 1) := by decide +kernel
theorem dX5_makeWindow_188 : decode cX5_makeWindow 188 = .ok (.getfield 50, 3) := by decide +kernel
theorem dX5_makeWindow_191 : decode cX5_makeWindow 191 = .ok (.iconst 0, 1) := by decide +kernel
theorem dX5_makeWindow_192 : decode cX5_makeWindow 192 = .ok (.aload_n 0, 1) := by decide +kernel
theorem dX5_makeWindow_193 : decode cX5_makeWindow 193 = .ok (.getfield 50, 3) := by decide +kernel
theorem dX5_makeWindow_196 : decode cX5_makeWindow 196 = .ok (.invokevirtual 72, 3) := by decide +kernel
theorem dX5_makeWindow_199 : decode cX5_makeWindow 199 = .ok (.invokevirtual 115, 3) := by decide +kernel
theorem dX5_makeWindow_202 : decode cX5_makeWindow 202 = .ok (.aload 6, 2) := by decide +kernel
theorem dX5_makeWindow_204 : decode cX5_makeWindow 204 = .ok (.aload_n 0, 1) := by decide +kernel
theorem dX5_makeWindow_205 : decode cX5_makeWindow 205 = .ok (.getfield 53, 3) := by decide +kernel
theorem dX5_makeWindow_208 : decode cX5_makeWindow 208 = .ok (.iconst 0, 1) := by decide +kernel
theorem dX5_makeWindow_209 : decode cX5_makeWindow 209 = .ok (.aload_n 0, 1) := by decide +kernel
theorem dX5_makeWindow_210 : decode cX5_makeWindow 210 = .ok (.getfield 53, 3) := by decide +kernel
theorem dX5_makeWindow_213 : decode cX5_makeWindow 213 = .ok (.invokevirtual 72, 3) := by decide +kernel
theorem dX5_makeWindow_216 : decode cX5_makeWindow 216 = .ok (.invokevirtual 115, 3) := by decide +kernel
theorem dX5_makeWindow_219 : decode cX5_makeWindow 219 = .ok (.iconst 1, 1) := by decide +kernel
theorem dX5_makeWindow_220 : decode cX5_makeWindow 220 = .ok (.ireturn, 1) := by decide +kernel
theorem dX5_makeWindows_0 : decode cX5_makeWindows 0 = .ok (.aload_n 0, 1) := by decide +kernel
theorem dX5_makeWindows_1 : decode cX5_makeWindows 1 = .ok (.getfield 28, 3) := by decide +kernel
theorem dX5_makeWindows_4 : decode cX5_makeWindows 4 = .ok (.aload_n 3, 1) := by decide +kernel
theorem dX5_makeWindows_5 : decode cX5_makeWindows 5 = .ok (.invokevirtual 56, 3) := by decide +kernel
theorem dX5_makeWindows_8 : decode cX5_makeWindows 8 = .ok (.aload_n 0, 1) := by decide +kernel
theorem dX5_makeWindows_9 : decode cX5_makeWindows 9 = .ok (.getfield 37, 3) := by decide +kernel
theorem dX5_makeWindows_12 : decode cX5_makeWindows 12 = .ok (.aload_n 3, 1) := by decide +kernel
theorem dX5_makeWindows_13 : decode cX5_makeWindows 13 = .ok (.getfield 60, 3) := by decide +kernel
theorem dX5_makeWindows_16 : decode cX5_makeWindows 16 = .ok (.aload_n 3, 1) := by decide +kernel
theorem dX5_makeWindows_17 : decode cX5_makeWindows 17 = .ok (.getfield 66, 3) := by decide +kernel
theorem dX5_makeWindows_20 : decode cX5_makeWindows 20 = .ok (.invokevirtual 69, 3) := by decide +kernel
theorem dX5_makeWindows_23 : decode cX5_makeWindows 23 = .ok (.iload 4, 2) := by decide +kernel
theorem dX5_makeWindows_25 : decode cX5_makeWindows 25 = .ok (.iconst 1, 1) := by decide +kernel
theorem dX5_makeWindows_26 : decode cX5_makeWindows 26 = .ok (.iand, 1) := by decide +kernel
theorem dX5_makeWindows_27 : decode cX5_makeWindows 27 = .ok (.ifCond .eq 7, 3) := by decide +kernel
theorem dX5_makeWindows_30 : decode cX5_makeWindows 30 = .ok (.iconst 4, 1) := by decide +kernel
theorem dX5_makeWindows_31 : decode cX5_makeWindows 31 = .ok (.goto 4, 3) := by decide +kernel
theorem dX5_makeWindows_34 : decode cX5_makeWindows 34 = .ok (.iconst 0, 1) := by decide +kernel
theorem dX5_makeWindows_35 : decode cX5_makeWindows 35 = .ok (.istore 6, 2) := by decide +kernel
theorem dX5_makeWindows_37 : decode cX5_makeWindows 37 = .ok (.iconst 0, 1) := by decide +kernel
theorem dX5_makeWindows_38 : decode cX5_makeWindows 38 = .ok (.istore 7, 2) := by decide +kernel
theorem dX5_makeWindows_40 : decode cX5_makeWindows 40 = .ok (.iload 7, 2) := by decide +kernel
theorem dX5_makeWindows_42 : decode cX5_makeWindows 42 = .ok (.aload_n 1, 1) := by decide +kernel
theorem dX5_makeWindows_43 : decode cX5_makeWindows 43 = .ok (.invokevirtual 72, 3) := by decide +kernel
theorem dX5_makeWindows_46 : decode cX5_makeWindows 46 = .ok (.if_icmp .ge 89, 3) := by decide +kernel
theorem dX5_makeWindows_49 : decode cX5_makeWindows 49 = .ok (.iload 4, 2) := by decide +kernel
theorem dX5_makeWindows_51 : decode cX5_makeWindows 51 = .ok (.iconst 4, 1) := by decide +kernel
theorem dX5_makeWindows_52 : decode cX5_makeWindows 52 = .ok (.iand, 1) := by decide +kernel
theorem dX5_makeWindows_53 : decode cX5_makeWindows 53 = .ok (.ifCond .eq 12, 3) := by decide +kernel
theorem dX5_makeWindows_56 : decode cX5_makeWindows 56 = .ok (.iload 7, 2) := by decide +kernel
theorem dX5_makeWindows_58 : decode cX5_makeWindows 58 = .ok (.ifCond .le 7, 3) := by decide +kernel
theorem dX5_makeWindows_61 : decode cX5_makeWindows 61 = .ok (.iconst 1, 1) := by decide +kernel
theorem dX5_makeWindows_62 : decode cX5_makeWindows 62 = .ok (.goto 4, 3) := by decide +kernel
theorem dX5_makeWindows_65 : decode cX5_makeWindows 65 = .ok (.iconst 0, 1) := by decide +kernel
theorem dX5_makeWindows_66 : decode cX5_makeWindows 66 = .ok (.istore 8, 2) := by decide +kernel
theorem dX5_makeWindows_68 : decode cX5_makeWindows 68 = .ok (.aload_n 2, 1) := by decide +kernel
theorem dX5_makeWindows_69 : decode cX5_makeWindows 69 = .ok (.invokevirtual 72, 3) := by decide +kernel
theorem dX5_makeWindows_72 : decode cX5_makeWindows 72 = .ok (.ifCond .le 7, 3) := by decide +kernel
theorem dX5_makeWindows_75 : decode cX5_makeWindows 75 = .ok (.iconst 1, 1) := by decide +kernel
theorem dX5_makeWindows_76 : decode cX5_makeWindows 76 = .ok (.goto 13, 3) := by decide +kernel
theorem dX5_makeWindows_79 : decode cX5_makeWindows 79 = .ok (.iload 8, 2) := by decide +kernel
theorem dX5_makeWindows_81 : decode cX5_makeWindows 81 = .ok (.ifCond .eq 7, 3) := by decide +kernel
theorem dX5_makeWindows_84 : decode cX5_makeWindows 84 = .ok (.iconst 2, 1) := by decide +kernel
theorem dX5_makeWindows_85 : decode cX5_makeWindows 85 = .ok (.goto 4, 3) := by decide +kernel
theorem dX5_makeWindows_88 : decode cX5_makeWindows 88 = .ok (.iconst 0, 1) := by decide +kernel
theorem dX5_makeWindows_89 : decode cX5_makeWindows 89 = .ok (.istore 9, 2) := by decide +kernel
theorem dX5_makeWindows_91 : decode cX5_makeWindows 91 = .ok (.iload 9, 2) := by decide +kernel
theorem dX5_makeWindows_93 : decode cX5_makeWindows 93 = .ok (.iconst 1, 1) := by decide +kernel
theorem dX5_makeWindows_94 : decode cX5_makeWindows 94 = .ok (.if_icmp .ne 7, 3) := by decide +kernel
theorem dX5_makeWindows_97 : decode cX5_makeWindows 97 = .ok (.aload_n 2, 1) := by decide +kernel
theorem dX5_makeWindows_98 : decode cX5_makeWindows 98 = .ok (.goto 4, 3) := by decide +kernel
theorem dX5_makeWindows_101 : decode cX5_makeWindows 101 = .ok (.aload_n 1, 1) := by decide +kernel
theorem dX5_makeWindows_102 : decode cX5_makeWindows 102 = .ok (.astore 10, 2) := by decide +kernel
theorem dX5_makeWindows_104 : decode cX5_makeWindows 104 = .ok (.aload_n 0, 1) := by decide +kernel
theorem dX5_makeWindows_105 : decode cX5_makeWindows 105 = .ok (.aload_n 1, 1) := by decide +kernel
theorem dX5_makeWindows_106 : decode cX5_makeWindows 106 = .ok (.iload 7, 2) := by decide +kernel
theorem dX5_makeWindows_108 : decode cX5_makeWindows 108 = .ok (.aload 10, 2) := by decide +kernel
theorem dX5_makeWindows_110 : decode cX5_makeWindows 110 = .ok (.iload 9, 2) := by decide +kernel
theorem dX5_makeWindows_112 : decode cX5_makeWindows 112 = .ok (.iload 6, 2) := by decide +kernel
theorem dX5_makeWindows_114 : decode cX5_makeWindows 114 = .ok (.ior, 1) := by decide +kernel
theorem dX5_makeWindows_115 : decode cX5_makeWindows 115 = .ok (.aload_n 3, 1) := by decide +kernel
theorem dX5_makeWindows_116 : decode cX5_makeWindows 116 = .ok (.aload 5, 2) := by decide +kernel
theorem dX5_makeWindows_118 : decode cX5_makeWindows 118 = .ok (.invokevirtual 76, 3) := by decide +kernel
theorem dX5_makeWindows_121 : decode cX5_makeWindows 121 = .ok (.ifCond .ne 5, 3) := by decide +kernel
theorem dX5_makeWindows_124 : decode cX5_makeWindows 124 = .ok (.iconst 0, 1) := by decide +kernel
theorem dX5_makeWindows_125 : decode cX5_makeWindows 125 = .ok (.ireturn, 1) := by decide +kernel
theorem dX5_makeWindows_126 : decode cX5_makeWindows 126 = .ok (.iinc 7 2048, 6) := by decide +kernel
theorem dX5_makeWindows_132 : decode cX5_makeWindows 132 = .ok (.goto (-92), 3) := by decide +kernel
theorem dX5_makeWindows_135 : decode cX5_makeWindows 135 = .ok (.iconst 1, 1) := by decide +kernel
theorem dX5_makeWindows_136 : decode cX5_makeWindows 136 = .ok (.ireturn, 1) := by decide +kernel
theorem dX11_tellTable_0 : decode cX11_tellTable 0 = .ok (.aload_n 0, 1) := by decide +kernel
theorem dX11_tellTable_1 : decode cX11_tellTable 1 = .ok (.getfield 21, 3) := by decide +kernel
theorem dX11_tellTable_4 : decode cX11_tellTable 4 = .ok (.iconst 2, 1) := by decide +kernel
theorem dX11_tellTable_5 : decode cX11_tellTable 5 = .ok (.aload_n 0, 1) := by decide +kernel
theorem dX11_tellTable_6 : decode cX11_tellTable 6 = .ok (.getfield 27, 3) := by decide +kernel
theorem dX11_tellTable_9 : decode cX11_tellTable 9 = .ok (.invokevirtual 95, 3) := by decide +kernel
theorem dX11_tellTable_12 : decode cX11_tellTable 12 = .ok (.iadd, 1) := by decide +kernel
theorem dX11_tellTable_13 : decode cX11_tellTable 13 = .ok (.i2l, 1) := by decide +kernel
theorem dX11_tellTable_14 : decode cX11_tellTable 14 = .ok (.invokevirtual 224, 3) := by decide +kernel
theorem dX11_tellTable_17 : decode cX11_tellTable 17 = .ok (.aload_n 0, 1) := by decide +kernel
theorem dX11_tellTable_18 : decode cX11_tellTable 18 = .ok (.getfield 21, 3) := by decide +kernel
theorem dX11_tellTable_21 : decode cX11_tellTable 21 = .ok (.aload_n 0, 1) := by decide +kernel
theorem dX11_tellTable_22 : decode cX11_tellTable 22 = .ok (.getfield 37, 3) := by decide +kernel
theorem dX11_tellTable_25 : decode cX11_tellTable 25 = .ok (.getfield 196, 3) := by decide +kernel
theorem dX11_tellTable_28 : decode cX11_tellTable 28 = .ok (.invokevirtual 100, 3) := by decide +kernel
theorem dX11_tellTable_31 : decode cX11_tellTable 31 = .ok (.aload_n 0, 1) := by decide +kernel
theorem dX11_tellTable_32 : decode cX11_tellTable 32 = .ok (.getfield 21, 3) := by decide +kernel
theorem dX11_tellTable_35 : decode cX11_tellTable 35 = .ok (.aload_n 0, 1) := by decide +kernel
theorem dX11_tellTable_36 : decode cX11_tellTable 36 = .ok (.getfield 37, 3) := by decide +kernel
theorem dX11_tellTable_39 : decode cX11_tellTable 39 = .ok (.getfield 200, 3) := by decide +kernel
theorem dX11_tellTable_42 : decode cX11_tellTable 42 = .ok (.invokevirtual 100, 3) := by decide +kernel
theorem dX11_tellTable_45 : decode cX11_tellTable 45 = .ok (.aload_n 0, 1) := by decide +kernel
theorem dX11_tellTable_46 : decode cX11_tellTable 46 = .ok (.getfield 21, 3) := by decide +kernel
theorem dX11_tellTable_49 : decode cX11_tellTable 49 = .ok (.aload_n 0, 1) := by decide +kernel
theorem dX11_tellTable_50 : decode cX11_tellTable 50 = .ok (.getfield 27, 3) := by decide +kernel
theorem dX11_tellTable_53 : decode cX11_tellTable 53 = .ok (.iconst 0, 1) := by decide +kernel
theorem dX11_tellTable_54 : decode cX11_tellTable 54 = .ok (.aload_n 0, 1) := by decide +kernel
theorem dX11_tellTable_55 : decode cX11_tellTable 55 = .ok (.getfield 27, 3) := by decide +kernel
theorem dX11_tellTable_58 : decode cX11_tellTable 58 = .ok (.invokevirtual 95, 3) := by decide +kernel
theorem dX11_tellTable_61 : decode cX11_tellTable 61 = .ok (.invokevirtual 103, 3) := by decide +kernel
theorem dX11_tellTable_64 : decode cX11_tellTable 64 = .ok (.return_, 1) := by decide +kernel
theorem dX8_hasLost_0 : decode cX8_hasLost 0 = .ok (.aload_n 0, 1) := by decide +kernel
theorem dX8_hasLost_1 : decode cX8_hasLost 1 = .ok (.getfield 23, 3) := by decide +kernel
theorem dX8_hasLost_4 : decode cX8_hasLost 4 = .ok (.ireturn, 1) := by decide +kernel
theorem dX11_letOut_0 : decode cX11_letOut 0 = .ok (.aload_n 0, 1) := by decide +kernel
theorem dX11_letOut_1 : decode cX11_letOut 1 = .ok (.getfield 18, 3) := by decide +kernel
theorem dX11_letOut_4 : decode cX11_letOut 4 = .ok (.astore_n 1, 1) := by decide +kernel
theorem dX11_letOut_5 : decode cX11_letOut 5 = .ok (.aload_n 0, 1) := by decide +kernel
theorem dX11_letOut_6 : decode cX11_letOut 6 = .ok (.aload_n 0, 1) := by decide +kernel
theorem dX11_letOut_7 : decode cX11_letOut 7 = .ok (.getfield 21, 3) := by decide +kernel
theorem dX11_letOut_10 : decode cX11_letOut 10 = .ok (.putfield 18, 3) := by decide +kernel
theorem dX11_letOut_13 : decode cX11_letOut 13 = .ok (.aload_n 0, 1) := by decide +kernel
theorem dX11_letOut_14 : decode cX11_letOut 14 = .ok (.aload_n 1, 1) := by decide +kernel
theorem dX11_letOut_15 : decode cX11_letOut 15 = .ok (.putfield 21, 3) := by decide +kernel
theorem dX11_letOut_18 : decode cX11_letOut 18 = .ok (.return_, 1) := by decide +kernel
theorem dX11_make_0 : decode cX11_make 0 = .ok (.iload_n 1, 1) := by decide +kernel
theorem dX11_make_1 : decode cX11_make 1 = .ok (.ifCond .lt 9, 3) := by decide +kernel
theorem dX11_make_4 : decode cX11_make 4 = .ok (.iload_n 1, 1) := by decide +kernel
theorem dX11_make_5 : decode cX11_make 5 = .ok (.bipush 7, 2) := by decide +kernel
theorem dX11_make_7 : decode cX11_make 7 = .ok (.if_icmp .le 6, 3) := by decide +kernel
theorem dX11_make_10 : decode cX11_make 10 = .ok (.bipush (-2), 2) := by decide +kernel
theorem dX11_make_12 : decode cX11_make 12 = .ok (.ireturn, 1) := by decide +kernel
theorem dX11_make_13 : decode cX11_make 13 = .ok (.iload_n 1, 1) := by decide +kernel
theorem dX11_make_14 : decode cX11_make 14 = .ok (.iconst 2, 1) := by decide +kernel
theorem dX11_make_15 : decode cX11_make 15 = .ok (.iand, 1) := by decide +kernel
theorem dX11_make_16 : decode cX11_make 16 = .ok (.ifCond .eq 7, 3) := by decide +kernel
theorem dX11_make_19 : decode cX11_make 19 = .ok (.iconst 1, 1) := by decide +kernel
theorem dX11_make_20 : decode cX11_make 20 = .ok (.goto 4, 3) := by decide +kernel
theorem dX11_make_23 : decode cX11_make 23 = .ok (.iconst 0, 1) := by decide +kernel
theorem dX11_make_24 : decode cX11_make 24 = .ok (.istore_n 2, 1) := by decide +kernel
theorem dX11_make_25 : decode cX11_make 25 = .ok (.iload_n 2, 1) := by decide +kernel
theorem dX11_make_26 : decode cX11_make 26 = .ok (.ifCond .eq 16, 3) := by decide +kernel
theorem dX11_make_29 : decode cX11_make 29 = .ok (.aload_n 0, 1) := by decide +kernel
theorem dX11_make_30 : decode cX11_make 30 = .ok (.getfield 37, 3) := by decide +kernel
theorem dX11_make_33 : decode cX11_make 33 = .ok (.invokevirtual 143, 3) := by decide +kernel
theorem dX11_make_36 : decode cX11_make 36 = .ok (.ifCond .ne 6, 3) := by decide +kernel
theorem dX11_make_39 : decode cX11_make 39 = .ok (.bipush (-3), 2) := by decide +kernel
theorem dX11_make_41 : decode cX11_make 41 = .ok (.ireturn, 1) := by decide +kernel
theorem dX11_make_42 : decode cX11_make 42 = .ok (.aload_n 0, 1) := by decide +kernel
theorem dX11_make_43 : decode cX11_make 43 = .ok (.getfield 14, 3) := by decide +kernel
theorem dX11_make_46 : decode cX11_make 46 = .ok (.invokevirtual 95, 3) := by decide +kernel
theorem dX11_make_49 : decode cX11_make 49 = .ok (.sipush 6000, 3) := by decide +kernel
theorem dX11_make_52 : decode cX11_make 52 = .ok (.if_icmp .le 6, 3) := by decide +kernel
theorem dX11_make_55 : decode cX11_make 55 = .ok (.bipush (-4), 2) := by decide +kernel
theorem dX11_make_57 : decode cX11_make 57 = .ok (.ireturn, 1) := by decide +kernel
theorem dX11_make_58 : decode cX11_make 58 = .ok (.aload_n 0, 1) := by decide +kernel
theorem dX11_make_59 : decode cX11_make 59 = .ok (.getfield 21, 3) := by decide +kernel
theorem dX11_make_62 : decode cX11_make 62 = .ok (.iload_n 2, 1) := by decide +kernel
theorem dX11_make_63 : decode cX11_make 63 = .ok (.ifCond .eq 7, 3) := by decide +kernel
theorem dX11_make_66 : decode cX11_make 66 = .ok (.iconst 2, 1) := by decide +kernel
theorem dX11_make_67 : decode cX11_make 67 = .ok (.goto 4, 3) := by decide +kernel
theorem dX11_make_70 : decode cX11_make 70 = .ok (.iconst 0, 1) := by decide +kernel
theorem dX11_make_71 : decode cX11_make 71 = .ok (.invokestatic 147, 3) := by decide +kernel
theorem dX11_make_74 : decode cX11_make 74 = .ok (.iload_n 2, 1) := by decide +kernel
theorem dX11_make_75 : decode cX11_make 75 = .ok (.ifCond .eq 46, 3) := by decide +kernel
theorem dX11_make_78 : decode cX11_make 78 = .ok (.aload_n 0, 1) := by decide +kernel
theorem dX11_make_79 : decode cX11_make 79 = .ok (.getfield 27, 3) := by decide +kernel
theorem dX11_make_82 : decode cX11_make 82 = .ok (.iconst 0, 1) := by decide +kernel
theorem dX11_make_83 : decode cX11_make 83 = .ok (.invokestatic 147, 3) := by decide +kernel
theorem dX11_make_86 : decode cX11_make 86 = .ok (.aload_n 0, 1) := by decide +kernel
theorem dX11_make_87 : decode cX11_make 87 = .ok (.getfield 62, 3) := by decide +kernel
theorem dX11_make_90 : decode cX11_make 90 = .ok (.aload_n 0, 1) := by decide +kernel
theorem dX11_make_91 : decode cX11_make 91 = .ok (.getfield 37, 3) := by decide +kernel
theorem dX11_make_94 : decode cX11_make 94 = .ok (.getfield 127, 3) := by decide +kernel
theorem dX11_make_97 : decode cX11_make 97 = .ok (.aload_n 0, 1) := by decide +kernel
theorem dX11_make_98 : decode cX11_make 98 = .ok (.getfield 33, 3) := by decide +kernel
theorem dX11_make_101 : decode cX11_make 101 = .ok (.getfield 127, 3) := by decide +kernel
theorem dX11_make_104 : decode cX11_make 104 = .ok (.aload_n 0, 1) := by decide +kernel
theorem dX11_make_105 : decode cX11_make 105 = .ok (.getfield 33, 3) := by decide +kernel
theorem dX11_make_108 : decode cX11_make 108 = .ok (.iconst 0, 1) := by decide +kernel
theorem dX11_make_109 : decode cX11_make 109 = .ok (.aload_n 0, 1) := by decide +kernel
theorem dX11_make_110 : decode cX11_make 110 = .ok (.getfield 27, 3) := by decide +kernel
theorem dX11_make_113 : decode cX11_make 113 = .ok (.invokevirtual 151, 3) := by decide +kernel
theorem dX11_make_116 : decode cX11_make 116 = .ok (.pop, 1) := by decide +kernel
theorem dX11_make_117 : decode cX11_make 117 = .ok (.aload_n 0, 1) := by decide +kernel
theorem dX11_make_118 : decode cX11_make 118 = .ok (.invokevirtual 155, 3) := by decide +kernel
theorem dX11_make_121 : decode cX11_make 121 = .ok (.aload_n 0, 1) := by decide +kernel
theorem dX11_make_122 : decode cX11_make 122 = .ok (.getfield 62, 3) := by decide +kernel
theorem dX11_make_125 : decode cX11_make 125 = .ok (.aload_n 0, 1) := by decide +kernel
theorem dX11_make_126 : decode cX11_make 126 = .ok (.getfield 14, 3) := by decide +kernel
theorem dX11_make_129 : decode cX11_make 129 = .ok (.aload_n 0, 1) := by decide +kernel
theorem dX11_make_130 : decode cX11_make 130 = .ok (.getfield 24, 3) := by decide +kernel
theorem dX11_make_133 : decode cX11_make 133 = .ok (.iload_n 2, 1) := by decide +kernel
theorem dX11_make_134 : decode cX11_make 134 = .ok (.ifCond .eq 10, 3) := by decide +kernel
theorem dX11_make_137 : decode cX11_make 137 = .ok (.aload_n 0, 1) := by decide +kernel
theorem dX11_make_138 : decode cX11_make 138 = .ok (.getfield 37, 3) := by decide +kernel
theorem dX11_make_141 : decode cX11_make 141 = .ok (.goto 7, 3) := by decide +kernel
theorem dX11_make_144 : decode cX11_make 144 = .ok (.aload_n 0, 1) := by decide +kernel
theorem dX11_make_145 : decode cX11_make 145 = .ok (.getfield 33, 3) := by decide +kernel
theorem dX11_make_148 : decode cX11_make 148 = .ok (.iload_n 1, 1) := by decide +kernel
theorem dX11_make_149 : decode cX11_make 149 = .ok (.aload_n 0, 1) := by decide +kernel
theorem dX11_make_150 : decode cX11_make 150 = .ok (.getfield 21, 3) := by decide +kernel
theorem dX11_make_153 : decode cX11_make 153 = .ok (.invokevirtual 151, 3) := by decide +kernel
theorem dX11_make_156 : decode cX11_make 156 = .ok (.istore_n 3, 1) := by decide +kernel
theorem dX11_make_157 : decode cX11_make 157 = .ok (.iload_n 3, 1) := by decide +kernel
theorem dX11_make_158 : decode cX11_make 158 = .ok (.ifCond .ne 6, 3) := by decide +kernel
theorem dX11_make_161 : decode cX11_make 161 = .ok (.bipush (-3), 2) := by decide +kernel
theorem dX11_make_163 : decode cX11_make 163 = .ok (.ireturn, 1) := by decide +kernel
theorem dX11_make_164 : decode cX11_make 164 = .ok (.aload_n 0, 1) := by decide +kernel
theorem dX11_make_165 : decode cX11_make 165 = .ok (.getfield 21, 3) := by decide +kernel
theorem dX11_make_168 : decode cX11_make 168 = .ok (.invokevirtual 158, 3) := by decide +kernel
theorem dX11_make_171 : decode cX11_make 171 = .ok (.ifCond .eq 6, 3) := by decide +kernel
theorem dX11_make_174 : decode cX11_make 174 = .ok (.bipush (-4), 2) := by decide +kernel
theorem dX11_make_176 : decode cX11_make 176 = .ok (.ireturn, 1) := by decide +kernel
theorem dX11_make_177 : decode cX11_make 177 = .ok (.aload_n 0, 1) := by decide +kernel
theorem dX11_make_178 : decode cX11_make 178 = .ok (.invokevirtual 161, 3) := by decide +kernel
theorem dX11_make_181 : decode cX11_make 181 = .ok (.aload_n 0, 1) := by decide +kernel
theorem dX11_make_182 : decode cX11_make 182 = .ok (.getfield 18, 3) := by decide +kernel
theorem dX11_make_185 : decode cX11_make 185 = .ok (.invokevirtual 95, 3) := by decide +kernel
theorem dX11_make_188 : decode cX11_make 188 = .ok (.ireturn, 1) := by decide +kernel
theorem dX2_lay_0 : decode cX2_lay 0 = .ok (.aload_n 0, 1) := by decide +kernel
theorem dX2_lay_1 : decode cX2_lay 1 = .ok (.aload_n 1, 1) := by decide +kernel
theorem dX2_lay_2 : decode cX2_lay 2 = .ok (.putfield 14, 3) := by decide +kernel
theorem dX2_lay_5 : decode cX2_lay 5 = .ok (.aload_n 0, 1) := by decide +kernel
theorem dX2_lay_6 : decode cX2_lay 6 = .ok (.iload_n 2, 1) := by decide +kernel
theorem dX2_lay_7 : decode cX2_lay 7 = .ok (.putfield 20, 3) := by decide +kernel
theorem dX2_lay_10 : decode cX2_lay 10 = .ok (.aload_n 0, 1) := by decide +kernel
theorem dX2_lay_11 : decode cX2_lay 11 = .ok (.iload_n 3, 1) := by decide +kernel
theorem dX2_lay_12 : decode cX2_lay 12 = .ok (.putfield 24, 3) := by decide +kernel
theorem dX2_lay_15 : decode cX2_lay 15 = .ok (.return_, 1) := by decide +kernel
theorem dX4_clear_0 : decode cX4_clear 0 = .ok (.aload_n 0, 1) := by decide +kernel
theorem dX4_clear_1 : decode cX4_clear 1 = .ok (.getfield 9, 3) := by decide +kernel
theorem dX4_clear_4 : decode cX4_clear 4 = .ok (.iconst 0, 1) := by decide +kernel
theorem dX4_clear_5 : decode cX4_clear 5 = .ok (.invokestatic 24, 3) := by decide +kernel
theorem dX4_clear_8 : decode cX4_clear 8 = .ok (.aload_n 0, 1) := by decide +kernel
theorem dX4_clear_9 : decode cX4_clear 9 = .ok (.iconst 0, 1) := by decide +kernel
theorem dX4_clear_10 : decode cX4_clear 10 = .ok (.putfield 30, 3) := by decide +kernel
theorem dX4_clear_13 : decode cX4_clear 13 = .ok (.return_, 1) := by decide +kernel
theorem dX7_begin_0 : decode cX7_begin 0 = .ok (.aload_n 0, 1) := by decide +kernel
theorem dX7_begin_1 : decode cX7_begin 1 = .ok (.getfield 12, 3) := by decide +kernel
theorem dX7_begin_4 : decode cX7_begin 4 = .ok (.aload_n 1, 1) := by decide +kernel
theorem dX7_begin_5 : decode cX7_begin 5 = .ok (.iload_n 2, 1) := by decide +kernel
theorem dX7_begin_6 : decode cX7_begin 6 = .ok (.iload_n 3, 1) := by decide +kernel
theorem dX7_begin_7 : decode cX7_begin 7 = .ok (.invokevirtual 71, 3) := by decide +kernel
theorem dX7_begin_10 : decode cX7_begin 10 = .ok (.aload_n 0, 1) := by decide +kernel
theorem dX7_begin_11 : decode cX7_begin 11 = .ok (.aload 4, 2) := by decide +kernel
theorem dX7_begin_13 : decode cX7_begin 13 = .ok (.putfield 42, 3) := by decide +kernel
theorem dX7_begin_16 : decode cX7_begin 16 = .ok (.aload_n 0, 1) := by decide +kernel
theorem dX7_begin_17 : decode cX7_begin 17 = .ok (.aload 5, 2) := by decide +kernel
theorem dX7_begin_19 : decode cX7_begin 19 = .ok (.putfield 46, 3) := by decide +kernel
theorem dX7_begin_22 : decode cX7_begin 22 = .ok (.aload_n 0, 1) := by decide +kernel
theorem dX7_begin_23 : decode cX7_begin 23 = .ok (.getfield 46, 3) := by decide +kernel
theorem dX7_begin_26 : decode cX7_begin 26 = .ok (.invokevirtual 75, 3) := by decide +kernel
theorem dX7_begin_29 : decode cX7_begin 29 = .ok (.aload_n 0, 1) := by decide +kernel
theorem dX7_begin_30 : decode cX7_begin 30 = .ok (.getfield 60, 3) := by decide +kernel
theorem dX7_begin_33 : decode cX7_begin 33 = .ok (.aload_n 0, 1) := by decide +kernel
theorem dX7_begin_34 : decode cX7_begin 34 = .ok (.getfield 56, 3) := by decide +kernel
theorem dX7_begin_37 : decode cX7_begin 37 = .ok (.getfield 78, 3) := by decide +kernel
theorem dX7_begin_40 : decode cX7_begin 40 = .ok (.aload_n 0, 1) := by decide +kernel
theorem dX7_begin_41 : decode cX7_begin 41 = .ok (.getfield 56, 3) := by decide +kernel
theorem dX7_begin_44 : decode cX7_begin 44 = .ok (.getfield 83, 3) := by decide +kernel
theorem dX7_begin_47 : decode cX7_begin 47 = .ok (.invokevirtual 86, 3) := by decide +kernel
theorem dX7_begin_50 : decode cX7_begin 50 = .ok (.aload_n 0, 1) := by decide +kernel
theorem dX7_begin_51 : decode cX7_begin 51 = .ok (.getfield 64, 3) := by decide +kernel
theorem dX7_begin_54 : decode cX7_begin 54 = .ok (.invokevirtual 92, 3) := by decide +kernel
theorem dX7_begin_57 : decode cX7_begin 57 = .ok (.aload_n 0, 1) := by decide +kernel
theorem dX7_begin_58 : decode cX7_begin 58 = .ok (.iconst 0, 1) := by decide +kernel
theorem dX7_begin_59 : decode cX7_begin 59 = .ok (.putfield 49, 3) := by decide +kernel
theorem dX7_begin_62 : decode cX7_begin 62 = .ok (.aload_n 0, 1) := by decide +kernel
theorem dX7_begin_63 : decode cX7_begin 63 = .ok (.iconst (-1), 1) := by decide +kernel
theorem dX7_begin_64 : decode cX7_begin 64 = .ok (.putfield 53, 3) := by decide +kernel
theorem dX7_begin_67 : decode cX7_begin 67 = .ok (.aload_n 0, 1) := by decide +kernel
theorem dX7_begin_68 : decode cX7_begin 68 = .ok (.iconst 0, 1) := by decide +kernel
theorem dX7_begin_69 : decode cX7_begin 69 = .ok (.putfield 95, 3) := by decide +kernel
theorem dX7_begin_72 : decode cX7_begin 72 = .ok (.aload_n 0, 1) := by decide +kernel
theorem dX7_begin_73 : decode cX7_begin 73 = .ok (.iload_n 2, 1) := by decide +kernel
theorem dX7_begin_74 : decode cX7_begin 74 = .ok (.putfield 98, 3) := by decide +kernel
theorem dX7_begin_77 : decode cX7_begin 77 = .ok (.aload_n 0, 1) := by decide +kernel
theorem dX7_begin_78 : decode cX7_begin 78 = .ok (.iconst 0, 1) := by decide +kernel
theorem dX7_begin_79 : decode cX7_begin 79 = .ok (.putfield 101, 3) := by decide +kernel
theorem dX7_begin_82 : decode cX7_begin 82 = .ok (.return_, 1) := by decide +kernel
theorem dX2_left_0 : decode cX2_left 0 = .ok (.aload_n 0, 1) := by decide +kernel
theorem dX2_left_1 : decode cX2_left 1 = .ok (.getfield 24, 3) := by decide +kernel
theorem dX2_left_4 : decode cX2_left 4 = .ok (.aload_n 0, 1) := by decide +kernel
theorem dX2_left_5 : decode cX2_left 5 = .ok (.getfield 20, 3) := by decide +kernel
theorem dX2_left_8 : decode cX2_left 8 = .ok (.isub, 1) := by decide +kernel
theorem dX2_left_9 : decode cX2_left 9 = .ok (.ireturn, 1) := by decide +kernel
theorem dX7_fail_0 : decode cX7_fail 0 = .ok (.aload_n 0, 1) := by decide +kernel
theorem dX7_fail_1 : decode cX7_fail 1 = .ok (.iload_n 1, 1) := by decide +kernel
theorem dX7_fail_2 : decode cX7_fail 2 = .ok (.putfield 49, 3) := by decide +kernel
theorem dX7_fail_5 : decode cX7_fail 5 = .ok (.aload_n 0, 1) := by decide +kernel
theorem dX7_fail_6 : decode cX7_fail 6 = .ok (.iload_n 2, 1) := by decide +kernel
theorem dX7_fail_7 : decode cX7_fail 7 = .ok (.putfield 53, 3) := by decide +kernel
theorem dX7_fail_10 : decode cX7_fail 10 = .ok (.iconst 0, 1) := by decide +kernel
theorem dX7_fail_11 : decode cX7_fail 11 = .ok (.ireturn, 1) := by decide +kernel
theorem dX7_lacks_0 : decode cX7_lacks 0 = .ok (.lload_n 1, 1) := by decide +kernel
theorem dX7_lacks_1 : decode cX7_lacks 1 = .ok (.aload_n 0, 1) := by decide +kernel
theorem dX7_lacks_2 : decode cX7_lacks 2 = .ok (.getfield 12, 3) := by decide +kernel
theorem dX7_lacks_5 : decode cX7_lacks 5 = .ok (.invokevirtual 107, 3) := by decide +kernel
theorem dX7_lacks_8 : decode cX7_lacks 8 = .ok (.i2l, 1) := by decide +kernel
theorem dX7_lacks_9 : decode cX7_lacks 9 = .ok (.lcmp, 1) := by decide +kernel
theorem dX7_lacks_10 : decode cX7_lacks 10 = .ok (.ifCond .le 18, 3) := by decide +kernel
theorem dX7_lacks_13 : decode cX7_lacks 13 = .ok (.aload_n 0, 1) := by decide +kernel
theorem dX7_lacks_14 : decode cX7_lacks 14 = .ok (.iconst 1, 1) := by decide +kernel
theorem dX7_lacks_15 : decode cX7_lacks 15 = .ok (.aload_n 0, 1) := by decide +kernel
theorem dX7_lacks_16 : decode cX7_lacks 16 = .ok (.getfield 12, 3) := by decide +kernel
theorem dX7_lacks_19 : decode cX7_lacks 19 = .ok (.getfield 111, 3) := by decide +kernel
theorem dX7_lacks_22 : decode cX7_lacks 22 = .ok (.invokevirtual 114, 3) := by decide +kernel
theorem dX7_lacks_25 : decode cX7_lacks 25 = .ok (.pop, 1) := by decide +kernel
theorem dX7_lacks_26 : decode cX7_lacks 26 = .ok (.iconst 1, 1) := by decide +kernel
theorem dX7_lacks_27 : decode cX7_lacks 27 = .ok (.ireturn, 1) := by decide +kernel
theorem dX7_lacks_28 : decode cX7_lacks 28 = .ok (.iconst 0, 1) := by decide +kernel
theorem dX7_lacks_29 : decode cX7_lacks 29 = .ok (.ireturn, 1) := by decide +kernel
theorem dX2_next_0 : decode cX2_next 0 = .ok (.aload_n 0, 1) := by decide +kernel
theorem dX2_next_1 : decode cX2_next 1 = .ok (.getfield 20, 3) := by decide +kernel
theorem dX2_next_4 : decode cX2_next 4 = .ok (.aload_n 0, 1) := by decide +kernel
theorem dX2_next_5 : decode cX2_next 5 = .ok (.getfield 24, 3) := by decide +kernel
theorem dX2_next_8 : decode cX2_next 8 = .ok (.if_icmp .lt 5, 3) := by decide +kernel
theorem dX2_next_11 : decode cX2_next 11 = .ok (.iconst (-1), 1) := by decide +kernel
theorem dX2_next_12 : decode cX2_next 12 = .ok (.ireturn, 1) := by decide +kernel
theorem dX2_next_13 : decode cX2_next 13 = .ok (.aload_n 0, 1) := by decide +kernel
theorem dX2_next_14 : decode cX2_next 14 = .ok (.getfield 14, 3) := by decide +kernel
theorem dX2_next_17 : decode cX2_next 17 = .ok (.aload_n 0, 1) := by decide +kernel
theorem dX2_next_18 : decode cX2_next 18 = .ok (.getfield 20, 3) := by decide +kernel
theorem dX2_next_21 : decode cX2_next 21 = .ok (.invokevirtual 27, 3) := by decide +kernel
theorem dX2_next_24 : decode cX2_next 24 = .ok (.istore_n 1, 1) := by decide +kernel
theorem dX2_next_25 : decode cX2_next 25 = .ok (.aload_n 0, 1) := by decide +kernel
theorem dX2_next_26 : decode cX2_next 26 = .ok (.dup, 1) := by decide +kernel
theorem dX2_next_27 : decode cX2_next 27 = .ok (.getfield 20, 3) := by decide +kernel
theorem dX2_next_30 : decode cX2_next 30 = .ok (.iconst 1, 1) := by decide +kernel
theorem dX2_next_31 : decode cX2_next 31 = .ok (.iadd, 1) := by decide +kernel
theorem dX2_next_32 : decode cX2_next 32 = .ok (.putfield 20, 3) := by decide +kernel
theorem dX2_next_35 : decode cX2_next 35 = .ok (.iload_n 1, 1) := by decide +kernel
theorem dX2_next_36 : decode cX2_next 36 = .ok (.ireturn, 1) := by decide +kernel
theorem dX2_nextBig_0 : decode cX2_nextBig 0 = .ok (.lconst 0, 1) := by decide +kernel
theorem dX2_nextBig_1 : decode cX2_nextBig 1 = .ok (.lstore_n 1, 1) := by decide +kernel
theorem dX2_nextBig_2 : decode cX2_nextBig 2 = .ok (.iconst 0, 1) := by decide +kernel
theorem dX2_nextBig_3 : decode cX2_nextBig 3 = .ok (.istore_n 3, 1) := by decide +kernel
theorem dX2_nextBig_4 : decode cX2_nextBig 4 = .ok (.iload_n 3, 1) := by decide +kernel
theorem dX2_nextBig_5 : decode cX2_nextBig 5 = .ok (.iconst 5, 1) := by decide +kernel
theorem dX2_nextBig_6 : decode cX2_nextBig 6 = .ok (.if_icmp .ge 84, 3) := by decide +kernel
theorem dX2_nextBig_9 : decode cX2_nextBig 9 = .ok (.aload_n 0, 1) := by decide +kernel
theorem dX2_nextBig_10 : decode cX2_nextBig 10 = .ok (.getfield 20, 3) := by decide +kernel
theorem dX2_nextBig_13 : decode cX2_nextBig 13 = .ok (.aload_n 0, 1) := by decide +kernel
theorem dX2_nextBig_14 : decode cX2_nextBig 14 = .ok (.getfield 24, 3) := by decide +kernel
theorem dX2_nextBig_17 : decode cX2_nextBig 17 = .ok (.if_icmp .lt 7, 3) := by decide +kernel
theorem dX2_nextBig_20 : decode cX2_nextBig 20 = .ok (.ldc2_w 30, 3) := by decide +kernel
theorem dX2_nextBig_23 : decode cX2_nextBig 23 = .ok (.lreturn, 1) := by decide +kernel
theorem dX2_nextBig_24 : decode cX2_nextBig 24 = .ok (.aload_n 0, 1) := by decide +kernel
theorem dX2_nextBig_25 : decode cX2_nextBig 25 = .ok (.getfield 14, 3) := by decide +kernel
theorem dX2_nextBig_28 : decode cX2_nextBig 28 = .ok (.aload_n 0, 1) := by decide +kernel
theorem dX2_nextBig_29 : decode cX2_nextBig 29 = .ok (.getfield 20, 3) := by decide +kernel
theorem dX2_nextBig_32 : decode cX2_nextBig 32 = .ok (.invokevirtual 27, 3) := by decide +kernel
theorem dX2_nextBig_35 : decode cX2_nextBig 35 = .ok (.istore 4, 2) := by decide +kernel
theorem dX2_nextBig_37 : decode cX2_nextBig 37 = .ok (.aload_n 0, 1) := by decide +kernel
theorem dX2_nextBig_38 : decode cX2_nextBig 38 = .ok (.dup, 1) := by decide +kernel
theorem dX2_nextBig_39 : decode cX2_nextBig 39 = .ok (.getfield 20, 3) := by decide +kernel
theorem dX2_nextBig_42 : decode cX2_nextBig 42 = .ok (.iconst 1, 1) := by decide +kernel
theorem dX2_nextBig_43 : decode cX2_nextBig 43 = .ok (.iadd, 1) := by decide +kernel
theorem dX2_nextBig_44 : decode cX2_nextBig 44 = .ok (.putfield 20, 3) := by decide +kernel
theorem dX2_nextBig_47 : decode cX2_nextBig 47 = .ok (.lload_n 1, 1) := by decide +kernel
theorem dX2_nextBig_48 : decode cX2_nextBig 48 = .ok (.ldc2_w 32, 3) := by decide +kernel
theorem dX2_nextBig_51 : decode cX2_nextBig 51 = .ok (.lmul, 1) := by decide +kernel
theorem dX2_nextBig_52 : decode cX2_nextBig 52 = .ok (.iload 4, 2) := by decide +kernel
theorem dX2_nextBig_54 : decode cX2_nextBig 54 = .ok (.bipush 127, 2) := by decide +kernel
theorem dX2_nextBig_56 : decode cX2_nextBig 56 = .ok (.iand, 1) := by decide +kernel
theorem dX2_nextBig_57 : decode cX2_nextBig 57 = .ok (.i2l, 1) := by decide +kernel
theorem dX2_nextBig_58 : decode cX2_nextBig 58 = .ok (.ladd, 1) := by decide +kernel
theorem dX2_nextBig_59 : decode cX2_nextBig 59 = .ok (.lstore_n 1, 1) := by decide +kernel
theorem dX2_nextBig_60 : decode cX2_nextBig 60 = .ok (.iload 4, 2) := by decide +kernel
theorem dX2_nextBig_62 : decode cX2_nextBig 62 = .ok (.sipush 128, 3) := by decide +kernel
theorem dX2_nextBig_65 : decode cX2_nextBig 65 = .ok (.if_icmp .ge 19, 3) := by decide +kernel
theorem dX2_nextBig_68 : decode cX2_nextBig 68 = .ok (.lload_n 1, 1) := by decide +kernel
theorem dX2_nextBig_69 : decode cX2_nextBig 69 = .ok (.ldc2_w 34, 3) := by decide +kernel
theorem dX2_nextBig_72 : decode cX2_nextBig 72 = .ok (.lcmp, 1) := by decide +kernel
theorem dX2_nextBig_73 : decode cX2_nextBig 73 = .ok (.ifCond .le 9, 3) := by decide +kernel
theorem dX2_nextBig_76 : decode cX2_nextBig 76 = .ok (.ldc2_w 36, 3) := by decide +kernel
theorem dX2_nextBig_79 : decode cX2_nextBig 79 = .ok (.goto 4, 3) := by decide +kernel
theorem dX2_nextBig_82 : decode cX2_nextBig 82 = .ok (.lload_n 1, 1) := by decide +kernel
theorem dX2_nextBig_83 : decode cX2_nextBig 83 = .ok (.lreturn, 1) := by decide +kernel
theorem dX2_nextBig_84 : decode cX2_nextBig 84 = .ok (.iinc 3 1, 3) := by decide +kernel
theorem dX2_nextBig_87 : decode cX2_nextBig 87 = .ok (.goto (-83), 3) := by decide +kernel
theorem dX2_nextBig_90 : decode cX2_nextBig 90 = .ok (.ldc2_w 36, 3) := by decide +kernel
theorem dX2_nextBig_93 : decode cX2_nextBig 93 = .ok (.lreturn, 1) := by decide +kernel
theorem dX7_readBig_0 : decode cX7_readBig 0 = .ok (.aload_n 0, 1) := by decide +kernel
theorem dX7_readBig_1 : decode cX7_readBig 1 = .ok (.getfield 12, 3) := by decide +kernel
theorem dX7_readBig_4 : decode cX7_readBig 4 = .ok (.getfield 104, 3) := by decide +kernel
theorem dX7_readBig_7 : decode cX7_readBig 7 = .ok (.istore_n 1, 1) := by decide +kernel
theorem dX7_readBig_8 : decode cX7_readBig 8 = .ok (.aload_n 0, 1) := by decide +kernel
theorem dX7_readBig_9 : decode cX7_readBig 9 = .ok (.getfield 12, 3) := by decide +kernel
theorem dX7_readBig_12 : decode cX7_readBig 12 = .ok (.invokevirtual 118, 3) := by decide +kernel
theorem dX7_readBig_15 : decode cX7_readBig 15 = .ok (.lstore_n 2, 1) := by decide +kernel
theorem dX7_readBig_16 : decode cX7_readBig 16 = .ok (.lload_n 2, 1) := by decide +kernel
theorem dX7_readBig_17 : decode cX7_readBig 17 = .ok (.ldc2_w 122, 3) := by decide +kernel
theorem dX7_readBig_20 : decode cX7_readBig 20 = .ok (.lcmp, 1) := by decide +kernel
theorem dX7_readBig_21 : decode cX7_readBig 21 = .ok (.ifCond .ne 19, 3) := by decide +kernel
theorem dX7_readBig_24 : decode cX7_readBig 24 = .ok (.aload_n 0, 1) := by decide +kernel
theorem dX7_readBig_25 : decode cX7_readBig 25 = .ok (.iconst 1, 1) := by decide +kernel
theorem dX7_readBig_26 : decode cX7_readBig 26 = .ok (.aload_n 0, 1) := by decide +kernel
theorem dX7_readBig_27 : decode cX7_readBig 27 = .ok (.getfield 12, 3) := by decide +kernel
theorem dX7_readBig_30 : decode cX7_readBig 30 = .ok (.getfield 111, 3) := by decide +kernel
theorem dX7_readBig_33 : decode cX7_readBig 33 = .ok (.invokevirtual 114, 3) := by decide +kernel
theorem dX7_readBig_36 : decode cX7_readBig 36 = .ok (.pop, 1) := by decide +kernel
theorem dX7_readBig_37 : decode cX7_readBig 37 = .ok (.goto 18, 3) := by decide +kernel
theorem dX7_readBig_40 : decode cX7_readBig 40 = .ok (.lload_n 2, 1) := by decide +kernel
theorem dX7_readBig_41 : decode cX7_readBig 41 = .ok (.ldc2_w 124, 3) := by decide +kernel
theorem dX7_readBig_44 : decode cX7_readBig 44 = .ok (.lcmp, 1) := by decide +kernel
theorem dX7_readBig_45 : decode cX7_readBig 45 = .ok (.ifCond .ne 10, 3) := by decide +kernel
theorem dX7_readBig_48 : decode cX7_readBig 48 = .ok (.aload_n 0, 1) := by decide +kernel
theorem dX7_readBig_49 : decode cX7_readBig 49 = .ok (.iconst 3, 1) := by decide +kernel
theorem dX7_readBig_50 : decode cX7_readBig 50 = .ok (.iload_n 1, 1) := by decide +kernel
theorem dX7_readBig_51 : decode cX7_readBig 51 = .ok (.invokevirtual 114, 3) := by decide +kernel
theorem dX7_readBig_54 : decode cX7_readBig 54 = .ok (.pop, 1) := by decide +kernel
theorem dX7_readBig_55 : decode cX7_readBig 55 = .ok (.lload_n 2, 1) := by decide +kernel
theorem dX7_readBig_56 : decode cX7_readBig 56 = .ok (.lreturn, 1) := by decide +kernel
theorem dX7_readTableHead_0 : decode cX7_readTableHead 0 = .ok (.aload_n 0, 1) := by decide +kernel
theorem dX7_readTableHead_1 : decode cX7_readTableHead 1 = .ok (.invokevirtual 142, 3) := by decide +kernel
theorem dX7_readTableHead_4 : decode cX7_readTableHead 4 = .ok (.lstore_n 1, 1) := by decide +kernel
theorem dX7_readTableHead_5 : decode cX7_readTableHead 5 = .ok (.aload_n 0, 1) := by decide +kernel
theorem dX7_readTableHead_6 : decode cX7_readTableHead 6 = .ok (.aload_n 0, 1) := by decide +kernel
theorem dX7_readTableHead_7 : decode cX7_readTableHead 7 = .ok (.getfield 12, 3) := by decide +kernel
theorem dX7_readTableHead_10 : decode cX7_readTableHead 10 = .ok (.getfield 104, 3) := by decide +kernel
theorem dX7_readTableHead_13 : decode cX7_readTableHead 13 = .ok (.putfield 98, 3) := by decide +kernel
theorem dX7_readTableHead_16 : decode cX7_readTableHead 16 = .ok (.lload_n 1, 1) := by decide +kernel
theorem dX7_readTableHead_17 : decode cX7_readTableHead 17 = .ok (.lconst 0, 1) := by decide +kernel
theorem dX7_readTableHead_18 : decode cX7_readTableHead 18 = .ok (.lcmp, 1) := by decide +kernel
theorem dX7_readTableHead_19 : decode cX7_readTableHead 19 = .ok (.ifCond .lt 11, 3) := by decide +kernel
theorem dX7_readTableHead_22 : decode cX7_readTableHead 22 = .ok (.aload_n 0, 1) := by decide +kernel
theorem dX7_readTableHead_23 : decode cX7_readTableHead 23 = .ok (.lload_n 1, 1) := by decide +kernel
theorem dX7_readTableHead_24 : decode cX7_readTableHead 24 = .ok (.invokevirtual 128, 3) := by decide +kernel
theorem dX7_readTableHead_27 : decode cX7_readTableHead 27 = .ok (.ifCond .eq 4, 3) := by decide +kernel
theorem dX7_readTableHead_30 : decode cX7_readTableHead 30 = .ok (.return_, 1) := by decide +kernel
theorem dX7_readTableHead_31 : decode cX7_readTableHead 31 = .ok (.aload_n 0, 1) := by decide +kernel
theorem dX7_readTableHead_32 : decode cX7_readTableHead 32 = .ok (.lload_n 1, 1) := by decide +kernel
theorem dX7_readTableHead_33 : decode cX7_readTableHead 33 = .ok (.l2i, 1) := by decide +kernel
theorem dX7_readTableHead_34 : decode cX7_readTableHead 34 = .ok (.putfield 101, 3) := by decide +kernel
theorem dX7_readTableHead_37 : decode cX7_readTableHead 37 = .ok (.lload_n 1, 1) := by decide +kernel
theorem dX7_readTableHead_38 : decode cX7_readTableHead 38 = .ok (.ldc2_w 145, 3) := by decide +kernel
theorem dX7_readTableHead_41 : decode cX7_readTableHead 41 = .ok (.lcmp, 1) := by decide +kernel
theorem dX7_readTableHead_42 : decode cX7_readTableHead 42 = .ok (.ifCond .lt 27, 3) := by decide +kernel
theorem dX7_readTableHead_45 : decode cX7_readTableHead 45 = .ok (.aload_n 0, 1) := by decide +kernel
theorem dX7_readTableHead_46 : decode cX7_readTableHead 46 = .ok (.getfield 12, 3) := by decide +kernel
theorem dX7_readTableHead_49 : decode cX7_readTableHead 49 = .ok (.invokevirtual 134, 3) := by decide +kernel
theorem dX7_readTableHead_52 : decode cX7_readTableHead 52 = .ok (.bipush 32, 2) := by decide +kernel
theorem dX7_readTableHead_54 : decode cX7_readTableHead 54 = .ok (.if_icmp .gt 15, 3) := by decide +kernel
theorem dX7_readTableHead_57 : decode cX7_readTableHead 57 = .ok (.aload_n 0, 1) := by decide +kernel
theorem dX7_readTableHead_58 : decode cX7_readTableHead 58 = .ok (.getfield 12, 3) := by decide +kernel
theorem dX7_readTableHead_61 : decode cX7_readTableHead 61 = .ok (.invokevirtual 134, 3) := by decide +kernel
theorem dX7_readTableHead_64 : decode cX7_readTableHead 64 = .ok (.bipush 16, 2) := by decide +kernel
theorem dX7_readTableHead_66 : decode cX7_readTableHead 66 = .ok (.if_icmp .le 13, 3) := by decide +kernel
theorem dX7_readTableHead_69 : decode cX7_readTableHead 69 = .ok (.aload_n 0, 1) := by decide +kernel
theorem dX7_readTableHead_70 : decode cX7_readTableHead 70 = .ok (.iconst 5, 1) := by decide +kernel
theorem dX7_readTableHead_71 : decode cX7_readTableHead 71 = .ok (.aload_n 0, 1) := by decide +kernel
theorem dX7_readTableHead_72 : decode cX7_readTableHead 72 = .ok (.getfield 98, 3) := by decide +kernel
theorem dX7_readTableHead_75 : decode cX7_readTableHead 75 = .ok (.invokevirtual 114, 3) := by decide +kernel
theorem dX7_readTableHead_78 : decode cX7_readTableHead 78 = .ok (.pop, 1) := by decide +kernel
theorem dX7_readTableHead_79 : decode cX7_readTableHead 79 = .ok (.return_, 1) := by decide +kernel
theorem dX7_readHead_0 : decode cX7_readHead 0 = .ok (.aload_n 0, 1) := by decide +kernel
theorem dX7_readHead_1 : decode cX7_readHead 1 = .ok (.getfield 12, 3) := by decide +kernel
theorem dX7_readHead_4 : decode cX7_readHead 4 = .ok (.getfield 104, 3) := by decide +kernel
theorem dX7_readHead_7 : decode cX7_readHead 7 = .ok (.istore_n 1, 1) := by decide +kernel
theorem dX7_readHead_8 : decode cX7_readHead 8 = .ok (.aload_n 0, 1) := by decide +kernel
theorem dX7_readHead_9 : decode cX7_readHead 9 = .ok (.ldc2_w 126, 3) := by decide +kernel
theorem dX7_readHead_12 : decode cX7_readHead 12 = .ok (.invokevirtual 128, 3) := by decide +kernel
theorem dX7_readHead_15 : decode cX7_readHead 15 = .ok (.ifCond .eq 4, 3) := by decide +kernel
theorem dX7_readHead_18 : decode cX7_readHead 18 = .ok (.return_, 1) := by decide +kernel
theorem dX7_readHead_19 : decode cX7_readHead 19 = .ok (.lconst 0, 1) := by decide +kernel
theorem dX7_readHead_20 : decode cX7_readHead 20 = .ok (.lstore_n 2, 1) := by decide +kernel
theorem dX7_readHead_21 : decode cX7_readHead 21 = .ok (.iconst 0, 1) := by decide +kernel
theorem dX7_readHead_22 : decode cX7_readHead 22 = .ok (.istore 4, 2) := by decide +kernel
theorem dX7_readHead_24 : decode cX7_readHead 24 = .ok (.iload 4, 2) := by decide +kernel
theorem dX7_readHead_26 : decode cX7_readHead 26 = .ok (.iconst 4, 1) := by decide +kernel
theorem dX7_readHead_27 : decode cX7_readHead 27 = .ok (.if_icmp .ge 24, 3) := by decide +kernel
theorem dX7_readHead_30 : decode cX7_readHead 30 = .ok (.lload_n 2, 1) := by decide +kernel
theorem dX7_readHead_31 : decode cX7_readHead 31 = .ok (.ldc2_w 132, 3) := by decide +kernel
theorem dX7_readHead_34 : decode cX7_readHead 34 = .ok (.lmul, 1) := by decide +kernel
theorem dX7_readHead_35 : decode cX7_readHead 35 = .ok (.aload_n 0, 1) := by decide +kernel
theorem dX7_readHead_36 : decode cX7_readHead 36 = .ok (.getfield 12, 3) := by decide +kernel
theorem dX7_readHead_39 : decode cX7_readHead 39 = .ok (.invokevirtual 134, 3) := by decide +kernel
theorem dX7_readHead_42 : decode cX7_readHead 42 = .ok (.i2l, 1) := by decide +kernel
theorem dX7_readHead_43 : decode cX7_readHead 43 = .ok (.ladd, 1) := by decide +kernel
theorem dX7_readHead_44 : decode cX7_readHead 44 = .ok (.lstore_n 2, 1) := by decide +kernel
theorem dX7_readHead_45 : decode cX7_readHead 45 = .ok (.iinc 4 1, 3) := by decide +kernel
theorem dX7_readHead_48 : decode cX7_readHead 48 = .ok (.goto (-24), 3) := by decide +kernel
theorem dX7_readHead_51 : decode cX7_readHead 51 = .ok (.lload_n 2, 1) := by decide +kernel
theorem dX7_readHead_52 : decode cX7_readHead 52 = .ok (.ldc2_w 137, 3) := by decide +kernel
theorem dX7_readHead_55 : decode cX7_readHead 55 = .ok (.lcmp, 1) := by decide +kernel
theorem dX7_readHead_56 : decode cX7_readHead 56 = .ok (.ifCond .eq 11, 3) := by decide +kernel
theorem dX7_readHead_59 : decode cX7_readHead 59 = .ok (.aload_n 0, 1) := by decide +kernel
theorem dX7_readHead_60 : decode cX7_readHead 60 = .ok (.iconst 2, 1) := by decide +kernel
theorem dX7_readHead_61 : decode cX7_readHead 61 = .ok (.iload_n 1, 1) := by decide +kernel
theorem dX7_readHead_62 : decode cX7_readHead 62 = .ok (.invokevirtual 114, 3) := by decide +kernel
theorem dX7_readHead_65 : decode cX7_readHead 65 = .ok (.pop, 1) := by decide +kernel
theorem dX7_readHead_66 : decode cX7_readHead 66 = .ok (.return_, 1) := by decide +kernel
theorem dX7_readHead_67 : decode cX7_readHead 67 = .ok (.aload_n 0, 1) := by decide +kernel
theorem dX7_readHead_68 : decode cX7_readHead 68 = .ok (.lconst 1, 1) := by decide +kernel
theorem dX7_readHead_69 : decode cX7_readHead 69 = .ok (.invokevirtual 128, 3) := by decide +kernel
theorem dX7_readHead_72 : decode cX7_readHead 72 = .ok (.ifCond .eq 4, 3) := by decide +kernel
theorem dX7_readHead_75 : decode cX7_readHead 75 = .ok (.return_, 1) := by decide +kernel
theorem dX7_readHead_76 : decode cX7_readHead 76 = .ok (.aload_n 0, 1) := by decide +kernel
theorem dX7_readHead_77 : decode cX7_readHead 77 = .ok (.getfield 12, 3) := by decide +kernel
theorem dX7_readHead_80 : decode cX7_readHead 80 = .ok (.invokevirtual 134, 3) := by decide +kernel
theorem dX7_readHead_83 : decode cX7_readHead 83 = .ok (.istore 4, 2) := by decide +kernel
theorem dX7_readHead_85 : decode cX7_readHead 85 = .ok (.iload 4, 2) := by decide +kernel
theorem dX7_readHead_87 : decode cX7_readHead 87 = .ok (.aload_n 0, 1) := by decide +kernel
theorem dX7_readHead_88 : decode cX7_readHead 88 = .ok (.getfield 68, 3) := by decide +kernel
theorem dX7_readHead_91 : decode cX7_readHead 91 = .ok (.iconst (-1), 1) := by decide +kernel
theorem dX7_readHead_92 : decode cX7_readHead 92 = .ok (.ixor, 1) := by decide +kernel
theorem dX7_readHead_93 : decode cX7_readHead 93 = .ok (.iand, 1) := by decide +kernel
theorem dX7_readHead_94 : decode cX7_readHead 94 = .ok (.ifCond .eq 13, 3) := by decide +kernel
theorem dX7_readHead_97 : decode cX7_readHead 97 = .ok (.aload_n 0, 1) := by decide +kernel
theorem dX7_readHead_98 : decode cX7_readHead 98 = .ok (.iconst 4, 1) := by decide +kernel
theorem dX7_readHead_99 : decode cX7_readHead 99 = .ok (.iload_n 1, 1) := by decide +kernel
theorem dX7_readHead_100 : decode cX7_readHead 100 = .ok (.iconst 4, 1) := by decide +kernel
theorem dX7_readHead_101 : decode cX7_readHead 101 = .ok (.iadd, 1) := by decide +kernel
theorem dX7_readHead_102 : decode cX7_readHead 102 = .ok (.invokevirtual 114, 3) := by decide +kernel
theorem dX7_readHead_105 : decode cX7_readHead 105 = .ok (.pop, 1) := by decide +kernel
theorem dX7_readHead_106 : decode cX7_readHead 106 = .ok (.return_, 1) := by decide +kernel
theorem dX7_readHead_107 : decode cX7_readHead 107 = .ok (.aload_n 0, 1) := by decide +kernel
theorem dX7_readHead_108 : decode cX7_readHead 108 = .ok (.iload 4, 2) := by decide +kernel
theorem dX7_readHead_110 : decode cX7_readHead 110 = .ok (.putfield 95, 3) := by decide +kernel
theorem dX7_readHead_113 : decode cX7_readHead 113 = .ok (.iload 4, 2) := by decide +kernel
theorem dX7_readHead_115 : decode cX7_readHead 115 = .ok (.iconst 2, 1) := by decide +kernel
theorem dX7_readHead_116 : decode cX7_readHead 116 = .ok (.iand, 1) := by decide +kernel
theorem dX7_readHead_117 : decode cX7_readHead 117 = .ok (.ifCond .eq 7, 3) := by decide +kernel
theorem dX7_readHead_120 : decode cX7_readHead 120 = .ok (.aload_n 0, 1) := by decide +kernel
theorem dX7_readHead_121 : decode cX7_readHead 121 = .ok (.invokevirtual 139, 3) := by decide +kernel
theorem dX7_readHead_124 : decode cX7_readHead 124 = .ok (.return_, 1) := by decide +kernel
theorem dX7_wantsTable_0 : decode cX7_wantsTable 0 = .ok (.aload_n 0, 1) := by decide +kernel
theorem dX7_wantsTable_1 : decode cX7_wantsTable 1 = .ok (.getfield 49, 3) := by decide +kernel
theorem dX7_wantsTable_4 : decode cX7_wantsTable 4 = .ok (.ifCond .ne 16, 3) := by decide +kernel
theorem dX7_wantsTable_7 : decode cX7_wantsTable 7 = .ok (.aload_n 0, 1) := by decide +kernel
theorem dX7_wantsTable_8 : decode cX7_wantsTable 8 = .ok (.getfield 95, 3) := by decide +kernel
theorem dX7_wantsTable_11 : decode cX7_wantsTable 11 = .ok (.iconst 2, 1) := by decide +kernel
theorem dX7_wantsTable_12 : decode cX7_wantsTable 12 = .ok (.iand, 1) := by decide +kernel
theorem dX7_wantsTable_13 : decode cX7_wantsTable 13 = .ok (.ifCond .eq 7, 3) := by decide +kernel
theorem dX7_wantsTable_16 : decode cX7_wantsTable 16 = .ok (.iconst 1, 1) := by decide +kernel
theorem dX7_wantsTable_17 : decode cX7_wantsTable 17 = .ok (.goto 4, 3) := by decide +kernel
theorem dX7_wantsTable_20 : decode cX7_wantsTable 20 = .ok (.iconst 0, 1) := by decide +kernel
theorem dX7_wantsTable_21 : decode cX7_wantsTable 21 = .ok (.ireturn, 1) := by decide +kernel
theorem dX7_reached_0 : decode cX7_reached 0 = .ok (.aload_n 0, 1) := by decide +kernel
theorem dX7_reached_1 : decode cX7_reached 1 = .ok (.getfield 12, 3) := by decide +kernel
theorem dX7_reached_4 : decode cX7_reached 4 = .ok (.getfield 104, 3) := by decide +kernel
theorem dX7_reached_7 : decode cX7_reached 7 = .ok (.ireturn, 1) := by decide +kernel
theorem dX7_tableEnd_0 : decode cX7_tableEnd 0 = .ok (.aload_n 0, 1) := by decide +kernel
theorem dX7_tableEnd_1 : decode cX7_tableEnd 1 = .ok (.getfield 98, 3) := by decide +kernel
theorem dX7_tableEnd_4 : decode cX7_tableEnd 4 = .ok (.aload_n 0, 1) := by decide +kernel
theorem dX7_tableEnd_5 : decode cX7_tableEnd 5 = .ok (.getfield 101, 3) := by decide +kernel
theorem dX7_tableEnd_8 : decode cX7_tableEnd 8 = .ok (.iadd, 1) := by decide +kernel
theorem dX7_tableEnd_9 : decode cX7_tableEnd 9 = .ok (.ireturn, 1) := by decide +kernel
theorem dX4_count_0 : decode cX4_count 0 = .ok (.iload_n 1, 1) := by decide +kernel
theorem dX4_count_1 : decode cX4_count 1 = .ok (.ifCond .lt 19, 3) := by decide +kernel
theorem dX4_count_4 : decode cX4_count 4 = .ok (.iload_n 1, 1) := by decide +kernel
theorem dX4_count_5 : decode cX4_count 5 = .ok (.bipush 8, 2) := by decide +kernel
theorem dX4_count_7 : decode cX4_count 7 = .ok (.if_icmp .ge 13, 3) := by decide +kernel
theorem dX4_count_10 : decode cX4_count 10 = .ok (.aload_n 0, 1) := by decide +kernel
theorem dX4_count_11 : decode cX4_count 11 = .ok (.getfield 9, 3) := by decide +kernel
theorem dX4_count_14 : decode cX4_count 14 = .ok (.iload_n 1, 1) := by decide +kernel
theorem dX4_count_15 : decode cX4_count 15 = .ok (.dup2, 1) := by decide +kernel
theorem dX4_count_16 : decode cX4_count 16 = .ok (.iaload, 1) := by decide +kernel
theorem dX4_count_17 : decode cX4_count 17 = .ok (.iload_n 2, 1) := by decide +kernel
theorem dX4_count_18 : decode cX4_count 18 = .ok (.iadd, 1) := by decide +kernel
theorem dX4_count_19 : decode cX4_count 19 = .ok (.iastore, 1) := by decide +kernel
theorem dX4_count_20 : decode cX4_count 20 = .ok (.return_, 1) := by decide +kernel
theorem dX2_pass_0 : decode cX2_pass 0 = .ok (.aload_n 0, 1) := by decide +kernel
theorem dX2_pass_1 : decode cX2_pass 1 = .ok (.dup, 1) := by decide +kernel
theorem dX2_pass_2 : decode cX2_pass 2 = .ok (.getfield 20, 3) := by decide +kernel
theorem dX2_pass_5 : decode cX2_pass 5 = .ok (.iload_n 1, 1) := by decide +kernel
theorem dX2_pass_6 : decode cX2_pass 6 = .ok (.iadd, 1) := by decide +kernel
theorem dX2_pass_7 : decode cX2_pass 7 = .ok (.putfield 20, 3) := by decide +kernel
theorem dX2_pass_10 : decode cX2_pass 10 = .ok (.return_, 1) := by decide +kernel
theorem dX7_readAppendix_0 : decode cX7_readAppendix 0 = .ok (.aload_n 0, 1) := by decide +kernel
theorem dX7_readAppendix_1 : decode cX7_readAppendix 1 = .ok (.getfield 49, 3) := by decide +kernel
theorem dX7_readAppendix_4 : decode cX7_readAppendix 4 = .ok (.ifCond .ne 12, 3) := by decide +kernel
theorem dX7_readAppendix_7 : decode cX7_readAppendix 7 = .ok (.aload_n 0, 1) := by decide +kernel
theorem dX7_readAppendix_8 : decode cX7_readAppendix 8 = .ok (.getfield 95, 3) := by decide +kernel
theorem dX7_readAppendix_11 : decode cX7_readAppendix 11 = .ok (.iconst 4, 1) := by decide +kernel
theorem dX7_readAppendix_12 : decode cX7_readAppendix 12 = .ok (.iand, 1) := by decide +kernel
theorem dX7_readAppendix_13 : decode cX7_readAppendix 13 = .ok (.ifCond .ne 4, 3) := by decide +kernel
theorem dX7_readAppendix_16 : decode cX7_readAppendix 16 = .ok (.return_, 1) := by decide +kernel
theorem dX7_readAppendix_17 : decode cX7_readAppendix 17 = .ok (.aload_n 0, 1) := by decide +kernel
theorem dX7_readAppendix_18 : decode cX7_readAppendix 18 = .ok (.invokevirtual 142, 3) := by decide +kernel
theorem dX7_readAppendix_21 : decode cX7_readAppendix 21 = .ok (.lstore_n 1, 1) := by decide +kernel
theorem dX7_readAppendix_22 : decode cX7_readAppendix 22 = .ok (.lload_n 1, 1) := by decide +kernel
theorem dX7_readAppendix_23 : decode cX7_readAppendix 23 = .ok (.lconst 0, 1) := by decide +kernel
theorem dX7_readAppendix_24 : decode cX7_readAppendix 24 = .ok (.lcmp, 1) := by decide +kernel
theorem dX7_readAppendix_25 : decode cX7_readAppendix 25 = .ok (.ifCond .lt 11, 3) := by decide +kernel
theorem dX7_readAppendix_28 : decode cX7_readAppendix 28 = .ok (.aload_n 0, 1) := by decide +kernel
theorem dX7_readAppendix_29 : decode cX7_readAppendix 29 = .ok (.lload_n 1, 1) := by decide +kernel
theorem dX7_readAppendix_30 : decode cX7_readAppendix 30 = .ok (.invokevirtual 128, 3) := by decide +kernel
theorem dX7_readAppendix_33 : decode cX7_readAppendix 33 = .ok (.ifCond .eq 4, 3) := by decide +kernel
theorem dX7_readAppendix_36 : decode cX7_readAppendix 36 = .ok (.return_, 1) := by decide +kernel
theorem dX7_readAppendix_37 : decode cX7_readAppendix 37 = .ok (.aload_n 0, 1) := by decide +kernel
theorem dX7_readAppendix_38 : decode cX7_readAppendix 38 = .ok (.getfield 64, 3) := by decide +kernel
theorem dX7_readAppendix_41 : decode cX7_readAppendix 41 = .ok (.bipush 6, 2) := by decide +kernel
theorem dX7_readAppendix_43 : decode cX7_readAppendix 43 = .ok (.lload_n 1, 1) := by decide +kernel
theorem dX7_readAppendix_44 : decode cX7_readAppendix 44 = .ok (.l2i, 1) := by decide +kernel
theorem dX7_readAppendix_45 : decode cX7_readAppendix 45 = .ok (.invokevirtual 166, 3) := by decide +kernel
theorem dX7_readAppendix_48 : decode cX7_readAppendix 48 = .ok (.aload_n 0, 1) := by decide +kernel
theorem dX7_readAppendix_49 : decode cX7_readAppendix 49 = .ok (.getfield 12, 3) := by decide +kernel
theorem dX7_readAppendix_52 : decode cX7_readAppendix 52 = .ok (.lload_n 1, 1) := by decide +kernel
theorem dX7_readAppendix_53 : decode cX7_readAppendix 53 = .ok (.l2i, 1) := by decide +kernel
theorem dX7_readAppendix_54 : decode cX7_readAppendix 54 = .ok (.invokevirtual 172, 3) := by decide +kernel
theorem dX7_readAppendix_57 : decode cX7_readAppendix 57 = .ok (.return_, 1) := by decide +kernel
theorem dX9_lay_0 : decode cX9_lay 0 = .ok (.aload_n 0, 1) := by decide +kernel
theorem dX9_lay_1 : decode cX9_lay 1 = .ok (.aload_n 1, 1) := by decide +kernel
theorem dX9_lay_2 : decode cX9_lay 2 = .ok (.putfield 12, 3) := by decide +kernel
theorem dX9_lay_5 : decode cX9_lay 5 = .ok (.aload_n 0, 1) := by decide +kernel
theorem dX9_lay_6 : decode cX9_lay 6 = .ok (.iload_n 2, 1) := by decide +kernel
theorem dX9_lay_7 : decode cX9_lay 7 = .ok (.putfield 21, 3) := by decide +kernel
theorem dX9_lay_10 : decode cX9_lay 10 = .ok (.aload_n 0, 1) := by decide +kernel
theorem dX9_lay_11 : decode cX9_lay 11 = .ok (.iload_n 3, 1) := by decide +kernel
theorem dX9_lay_12 : decode cX9_lay 12 = .ok (.putfield 25, 3) := by decide +kernel
theorem dX9_lay_15 : decode cX9_lay 15 = .ok (.aload_n 0, 1) := by decide +kernel
theorem dX9_lay_16 : decode cX9_lay 16 = .ok (.aload 4, 2) := by decide +kernel
theorem dX9_lay_18 : decode cX9_lay 18 = .ok (.putfield 18, 3) := by decide +kernel
theorem dX9_lay_21 : decode cX9_lay 21 = .ok (.aload_n 0, 1) := by decide +kernel
theorem dX9_lay_22 : decode cX9_lay 22 = .ok (.aload 4, 2) := by decide +kernel
theorem dX9_lay_24 : decode cX9_lay 24 = .ok (.invokevirtual 28, 3) := by decide +kernel
theorem dX9_lay_27 : decode cX9_lay 27 = .ok (.putfield 32, 3) := by decide +kernel
theorem dX9_lay_30 : decode cX9_lay 30 = .ok (.return_, 1) := by decide +kernel
theorem dX7_readSegment_0 : decode cX7_readSegment 0 = .ok (.aload_n 0, 1) := by decide +kernel
theorem dX7_readSegment_1 : decode cX7_readSegment 1 = .ok (.getfield 33, 3) := by decide +kernel
theorem dX7_readSegment_4 : decode cX7_readSegment 4 = .ok (.aload_n 0, 1) := by decide +kernel
theorem dX7_readSegment_5 : decode cX7_readSegment 5 = .ok (.getfield 42, 3) := by decide +kernel
theorem dX7_readSegment_8 : decode cX7_readSegment 8 = .ok (.iconst 0, 1) := by decide +kernel
theorem dX7_readSegment_9 : decode cX7_readSegment 9 = .ok (.iconst 0, 1) := by decide +kernel
theorem dX7_readSegment_10 : decode cX7_readSegment 10 = .ok (.aload_n 0, 1) := by decide +kernel
theorem dX7_readSegment_11 : decode cX7_readSegment 11 = .ok (.getfield 46, 3) := by decide +kernel
theorem dX7_readSegment_14 : decode cX7_readSegment 14 = .ok (.invokevirtual 185, 3) := by decide +kernel
theorem dX7_readSegment_17 : decode cX7_readSegment 17 = .ok (.iload_n 1, 1) := by decide +kernel
theorem dX7_readSegment_18 : decode cX7_readSegment 18 = .ok (.iconst 3, 1) := by decide +kernel
theorem dX7_readSegment_19 : decode cX7_readSegment 19 = .ok (.iand, 1) := by decide +kernel
theorem dX7_readSegment_20 : decode cX7_readSegment 20 = .ok (.ifCond .ne 5, 3) := by decide +kernel
