theorem dX7_readSegment_23 : decode cX7_readSegment 23 = .ok (.iconst 1, 1) := by decide +kernel
theorem dX7_readSegment_24 : decode cX7_readSegment 24 = .ok (.ireturn, 1) := by decide +kernel
theorem dX7_readSegment_25 : decode cX7_readSegment 25 = .ok (.aload_n 0, 1) := by decide +kernel
theorem dX7_readSegment_26 : decode cX7_readSegment 26 = .ok (.getfield 12, 3) := by decide +kernel
theorem dX7_readSegment_29 : decode cX7_readSegment 29 = .ok (.getfield 104, 3) := by decide +kernel
theorem dX7_readSegment_32 : decode cX7_readSegment 32 = .ok (.istore_n 2, 1) := by decide +kernel
theorem dX7_readSegment_33 : decode cX7_readSegment 33 = .ok (.aload_n 0, 1) := by decide +kernel
theorem dX7_readSegment_34 : decode cX7_readSegment 34 = .ok (.invokevirtual 142, 3) := by decide +kernel
theorem dX7_readSegment_37 : decode cX7_readSegment 37 = .ok (.lstore_n 3, 1) := by decide +kernel
theorem dX7_readSegment_38 : decode cX7_readSegment 38 = .ok (.lload_n 3, 1) := by decide +kernel
theorem dX7_readSegment_39 : decode cX7_readSegment 39 = .ok (.lconst 0, 1) := by decide +kernel
theorem dX7_readSegment_40 : decode cX7_readSegment 40 = .ok (.lcmp, 1) := by decide +kernel
theorem dX7_readSegment_41 : decode cX7_readSegment 41 = .ok (.ifCond .ge 5, 3) := by decide +kernel
theorem dX7_readSegment_44 : decode cX7_readSegment 44 = .ok (.iconst 0, 1) := by decide +kernel
theorem dX7_readSegment_45 : decode cX7_readSegment 45 = .ok (.ireturn, 1) := by decide +kernel
theorem dX7_readSegment_46 : decode cX7_readSegment 46 = .ok (.aload_n 0, 1) := by decide +kernel
theorem dX7_readSegment_47 : decode cX7_readSegment 47 = .ok (.invokevirtual 142, 3) := by decide +kernel
theorem dX7_readSegment_50 : decode cX7_readSegment 50 = .ok (.lstore 5, 2) := by decide +kernel
theorem dX7_readSegment_52 : decode cX7_readSegment 52 = .ok (.lload 5, 2) := by decide +kernel
theorem dX7_readSegment_54 : decode cX7_readSegment 54 = .ok (.lconst 0, 1) := by decide +kernel
theorem dX7_readSegment_55 : decode cX7_readSegment 55 = .ok (.lcmp, 1) := by decide +kernel
theorem dX7_readSegment_56 : decode cX7_readSegment 56 = .ok (.ifCond .ge 5, 3) := by decide +kernel
theorem dX7_readSegment_59 : decode cX7_readSegment 59 = .ok (.iconst 0, 1) := by decide +kernel
theorem dX7_readSegment_60 : decode cX7_readSegment 60 = .ok (.ireturn, 1) := by decide +kernel
theorem dX7_readSegment_61 : decode cX7_readSegment 61 = .ok (.iload_n 1, 1) := by decide +kernel
theorem dX7_readSegment_62 : decode cX7_readSegment 62 = .ok (.iconst 1, 1) := by decide +kernel
theorem dX7_readSegment_63 : decode cX7_readSegment 63 = .ok (.iand, 1) := by decide +kernel
theorem dX7_readSegment_64 : decode cX7_readSegment 64 = .ok (.ifCond .eq 10, 3) := by decide +kernel
theorem dX7_readSegment_67 : decode cX7_readSegment 67 = .ok (.aload_n 0, 1) := by decide +kernel
theorem dX7_readSegment_68 : decode cX7_readSegment 68 = .ok (.getfield 42, 3) := by decide +kernel
theorem dX7_readSegment_71 : decode cX7_readSegment 71 = .ok (.goto 7, 3) := by decide +kernel
theorem dX7_readSegment_74 : decode cX7_readSegment 74 = .ok (.aload_n 0, 1) := by decide +kernel
theorem dX7_readSegment_75 : decode cX7_readSegment 75 = .ok (.getfield 46, 3) := by decide +kernel
theorem dX7_readSegment_78 : decode cX7_readSegment 78 = .ok (.astore 7, 2) := by decide +kernel
theorem dX7_readSegment_80 : decode cX7_readSegment 80 = .ok (.lload 5, 2) := by decide +kernel
theorem dX7_readSegment_82 : decode cX7_readSegment 82 = .ok (.lload_n 3, 1) := by decide +kernel
theorem dX7_readSegment_83 : decode cX7_readSegment 83 = .ok (.ladd, 1) := by decide +kernel
theorem dX7_readSegment_84 : decode cX7_readSegment 84 = .ok (.aload 7, 2) := by decide +kernel
theorem dX7_readSegment_86 : decode cX7_readSegment 86 = .ok (.invokevirtual 153, 3) := by decide +kernel
theorem dX7_readSegment_89 : decode cX7_readSegment 89 = .ok (.i2l, 1) := by decide +kernel
theorem dX7_readSegment_90 : decode cX7_readSegment 90 = .ok (.lcmp, 1) := by decide +kernel
theorem dX7_readSegment_91 : decode cX7_readSegment 91 = .ok (.ifCond .le 11, 3) := by decide +kernel
theorem dX7_readSegment_94 : decode cX7_readSegment 94 = .ok (.aload_n 0, 1) := by decide +kernel
theorem dX7_readSegment_95 : decode cX7_readSegment 95 = .ok (.bipush 7, 2) := by decide +kernel
theorem dX7_readSegment_97 : decode cX7_readSegment 97 = .ok (.iload_n 2, 1) := by decide +kernel
theorem dX7_readSegment_98 : decode cX7_readSegment 98 = .ok (.invokevirtual 114, 3) := by decide +kernel
theorem dX7_readSegment_101 : decode cX7_readSegment 101 = .ok (.ireturn, 1) := by decide +kernel
theorem dX7_readSegment_102 : decode cX7_readSegment 102 = .ok (.aload_n 0, 1) := by decide +kernel
theorem dX7_readSegment_103 : decode cX7_readSegment 103 = .ok (.getfield 33, 3) := by decide +kernel
theorem dX7_readSegment_106 : decode cX7_readSegment 106 = .ok (.aload 7, 2) := by decide +kernel
theorem dX7_readSegment_108 : decode cX7_readSegment 108 = .ok (.lload 5, 2) := by decide +kernel
theorem dX7_readSegment_110 : decode cX7_readSegment 110 = .ok (.l2i, 1) := by decide +kernel
theorem dX7_readSegment_111 : decode cX7_readSegment 111 = .ok (.lload_n 3, 1) := by decide +kernel
theorem dX7_readSegment_112 : decode cX7_readSegment 112 = .ok (.l2i, 1) := by decide +kernel
theorem dX7_readSegment_113 : decode cX7_readSegment 113 = .ok (.aload_n 0, 1) := by decide +kernel
theorem dX7_readSegment_114 : decode cX7_readSegment 114 = .ok (.getfield 46, 3) := by decide +kernel
theorem dX7_readSegment_117 : decode cX7_readSegment 117 = .ok (.invokevirtual 185, 3) := by decide +kernel
theorem dX7_readSegment_120 : decode cX7_readSegment 120 = .ok (.iconst 1, 1) := by decide +kernel
theorem dX7_readSegment_121 : decode cX7_readSegment 121 = .ok (.ireturn, 1) := by decide +kernel
theorem dX7_readTargetSize_0 : decode cX7_readTargetSize 0 = .ok (.aload_n 0, 1) := by decide +kernel
theorem dX7_readTargetSize_1 : decode cX7_readTargetSize 1 = .ok (.getfield 12, 3) := by decide +kernel
theorem dX7_readTargetSize_4 : decode cX7_readTargetSize 4 = .ok (.getfield 104, 3) := by decide +kernel
theorem dX7_readTargetSize_7 : decode cX7_readTargetSize 7 = .ok (.istore_n 1, 1) := by decide +kernel
theorem dX7_readTargetSize_8 : decode cX7_readTargetSize 8 = .ok (.aload_n 0, 1) := by decide +kernel
theorem dX7_readTargetSize_9 : decode cX7_readTargetSize 9 = .ok (.invokevirtual 142, 3) := by decide +kernel
theorem dX7_readTargetSize_12 : decode cX7_readTargetSize 12 = .ok (.lstore_n 2, 1) := by decide +kernel
theorem dX7_readTargetSize_13 : decode cX7_readTargetSize 13 = .ok (.lload_n 2, 1) := by decide +kernel
theorem dX7_readTargetSize_14 : decode cX7_readTargetSize 14 = .ok (.lconst 0, 1) := by decide +kernel
theorem dX7_readTargetSize_15 : decode cX7_readTargetSize 15 = .ok (.lcmp, 1) := by decide +kernel
theorem dX7_readTargetSize_16 : decode cX7_readTargetSize 16 = .ok (.ifCond .ge 5, 3) := by decide +kernel
theorem dX7_readTargetSize_19 : decode cX7_readTargetSize 19 = .ok (.iconst 0, 1) := by decide +kernel
theorem dX7_readTargetSize_20 : decode cX7_readTargetSize 20 = .ok (.ireturn, 1) := by decide +kernel
theorem dX7_readTargetSize_21 : decode cX7_readTargetSize 21 = .ok (.lload_n 2, 1) := by decide +kernel
theorem dX7_readTargetSize_22 : decode cX7_readTargetSize 22 = .ok (.sipush 8000, 3) := by decide +kernel
theorem dX7_readTargetSize_25 : decode cX7_readTargetSize 25 = .ok (.aload_n 0, 1) := by decide +kernel
theorem dX7_readTargetSize_26 : decode cX7_readTargetSize 26 = .ok (.getfield 46, 3) := by decide +kernel
theorem dX7_readTargetSize_29 : decode cX7_readTargetSize 29 = .ok (.invokevirtual 153, 3) := by decide +kernel
theorem dX7_readTargetSize_32 : decode cX7_readTargetSize 32 = .ok (.isub, 1) := by decide +kernel
theorem dX7_readTargetSize_33 : decode cX7_readTargetSize 33 = .ok (.i2l, 1) := by decide +kernel
theorem dX7_readTargetSize_34 : decode cX7_readTargetSize 34 = .ok (.lcmp, 1) := by decide +kernel
theorem dX7_readTargetSize_35 : decode cX7_readTargetSize 35 = .ok (.ifCond .le 11, 3) := by decide +kernel
theorem dX7_readTargetSize_38 : decode cX7_readTargetSize 38 = .ok (.aload_n 0, 1) := by decide +kernel
theorem dX7_readTargetSize_39 : decode cX7_readTargetSize 39 = .ok (.bipush 10, 2) := by decide +kernel
theorem dX7_readTargetSize_41 : decode cX7_readTargetSize 41 = .ok (.iload_n 1, 1) := by decide +kernel
theorem dX7_readTargetSize_42 : decode cX7_readTargetSize 42 = .ok (.invokevirtual 114, 3) := by decide +kernel
theorem dX7_readTargetSize_45 : decode cX7_readTargetSize 45 = .ok (.ireturn, 1) := by decide +kernel
theorem dX7_readTargetSize_46 : decode cX7_readTargetSize 46 = .ok (.aload_n 0, 1) := by decide +kernel
theorem dX7_readTargetSize_47 : decode cX7_readTargetSize 47 = .ok (.lload_n 2, 1) := by decide +kernel
theorem dX7_readTargetSize_48 : decode cX7_readTargetSize 48 = .ok (.l2i, 1) := by decide +kernel
theorem dX7_readTargetSize_49 : decode cX7_readTargetSize 49 = .ok (.putfield 195, 3) := by decide +kernel
theorem dX7_readTargetSize_52 : decode cX7_readTargetSize 52 = .ok (.aload_n 0, 1) := by decide +kernel
theorem dX7_readTargetSize_53 : decode cX7_readTargetSize 53 = .ok (.lconst 1, 1) := by decide +kernel
theorem dX7_readTargetSize_54 : decode cX7_readTargetSize 54 = .ok (.invokevirtual 128, 3) := by decide +kernel
theorem dX7_readTargetSize_57 : decode cX7_readTargetSize 57 = .ok (.ifCond .eq 5, 3) := by decide +kernel
theorem dX7_readTargetSize_60 : decode cX7_readTargetSize 60 = .ok (.iconst 0, 1) := by decide +kernel
theorem dX7_readTargetSize_61 : decode cX7_readTargetSize 61 = .ok (.ireturn, 1) := by decide +kernel
theorem dX7_readTargetSize_62 : decode cX7_readTargetSize 62 = .ok (.aload_n 0, 1) := by decide +kernel
theorem dX7_readTargetSize_63 : decode cX7_readTargetSize 63 = .ok (.getfield 12, 3) := by decide +kernel
theorem dX7_readTargetSize_66 : decode cX7_readTargetSize 66 = .ok (.getfield 104, 3) := by decide +kernel
theorem dX7_readTargetSize_69 : decode cX7_readTargetSize 69 = .ok (.istore 4, 2) := by decide +kernel
theorem dX7_readTargetSize_71 : decode cX7_readTargetSize 71 = .ok (.aload_n 0, 1) := by decide +kernel
theorem dX7_readTargetSize_72 : decode cX7_readTargetSize 72 = .ok (.getfield 12, 3) := by decide +kernel
theorem dX7_readTargetSize_75 : decode cX7_readTargetSize 75 = .ok (.invokevirtual 134, 3) := by decide +kernel
theorem dX7_readTargetSize_78 : decode cX7_readTargetSize 78 = .ok (.ifCond .eq 14, 3) := by decide +kernel
theorem dX7_readTargetSize_81 : decode cX7_readTargetSize 81 = .ok (.aload_n 0, 1) := by decide +kernel
theorem dX7_readTargetSize_82 : decode cX7_readTargetSize 82 = .ok (.bipush 9, 2) := by decide +kernel
theorem dX7_readTargetSize_84 : decode cX7_readTargetSize 84 = .ok (.iload 4, 2) := by decide +kernel
theorem dX7_readTargetSize_86 : decode cX7_readTargetSize 86 = .ok (.invokevirtual 114, 3) := by decide +kernel
theorem dX7_readTargetSize_89 : decode cX7_readTargetSize 89 = .ok (.ifCond .eq 7, 3) := by decide +kernel
theorem dX7_readTargetSize_92 : decode cX7_readTargetSize 92 = .ok (.iconst 1, 1) := by decide +kernel
theorem dX7_readTargetSize_93 : decode cX7_readTargetSize 93 = .ok (.goto 4, 3) := by decide +kernel
theorem dX7_readTargetSize_96 : decode cX7_readTargetSize 96 = .ok (.iconst 0, 1) := by decide +kernel
theorem dX7_readTargetSize_97 : decode cX7_readTargetSize 97 = .ok (.ireturn, 1) := by decide +kernel
theorem dX7_layParts_0 : decode cX7_layParts 0 = .ok (.aload_n 0, 1) := by decide +kernel
theorem dX7_layParts_1 : decode cX7_layParts 1 = .ok (.getfield 12, 3) := by decide +kernel
theorem dX7_layParts_4 : decode cX7_layParts 4 = .ok (.getfield 104, 3) := by decide +kernel
theorem dX7_layParts_7 : decode cX7_layParts 7 = .ok (.iload_n 1, 1) := by decide +kernel
theorem dX7_layParts_8 : decode cX7_layParts 8 = .ok (.iadd, 1) := by decide +kernel
theorem dX7_layParts_9 : decode cX7_layParts 9 = .ok (.istore 4, 2) := by decide +kernel
theorem dX7_layParts_11 : decode cX7_layParts 11 = .ok (.iload 4, 2) := by decide +kernel
theorem dX7_layParts_13 : decode cX7_layParts 13 = .ok (.iload_n 2, 1) := by decide +kernel
theorem dX7_layParts_14 : decode cX7_layParts 14 = .ok (.iadd, 1) := by decide +kernel
theorem dX7_layParts_15 : decode cX7_layParts 15 = .ok (.istore 5, 2) := by decide +kernel
theorem dX7_layParts_17 : decode cX7_layParts 17 = .ok (.aload_n 0, 1) := by decide +kernel
theorem dX7_layParts_18 : decode cX7_layParts 18 = .ok (.getfield 18, 3) := by decide +kernel
theorem dX7_layParts_21 : decode cX7_layParts 21 = .ok (.aload_n 0, 1) := by decide +kernel
theorem dX7_layParts_22 : decode cX7_layParts 22 = .ok (.getfield 12, 3) := by decide +kernel
theorem dX7_layParts_25 : decode cX7_layParts 25 = .ok (.getfield 147, 3) := by decide +kernel
theorem dX7_layParts_28 : decode cX7_layParts 28 = .ok (.aload_n 0, 1) := by decide +kernel
theorem dX7_layParts_29 : decode cX7_layParts 29 = .ok (.getfield 12, 3) := by decide +kernel
theorem dX7_layParts_32 : decode cX7_layParts 32 = .ok (.getfield 104, 3) := by decide +kernel
theorem dX7_layParts_35 : decode cX7_layParts 35 = .ok (.iload 4, 2) := by decide +kernel
theorem dX7_layParts_37 : decode cX7_layParts 37 = .ok (.invokevirtual 71, 3) := by decide +kernel
theorem dX7_layParts_40 : decode cX7_layParts 40 = .ok (.aload_n 0, 1) := by decide +kernel
theorem dX7_layParts_41 : decode cX7_layParts 41 = .ok (.getfield 21, 3) := by decide +kernel
theorem dX7_layParts_44 : decode cX7_layParts 44 = .ok (.aload_n 0, 1) := by decide +kernel
theorem dX7_layParts_45 : decode cX7_layParts 45 = .ok (.getfield 12, 3) := by decide +kernel
theorem dX7_layParts_48 : decode cX7_layParts 48 = .ok (.getfield 147, 3) := by decide +kernel
theorem dX7_layParts_51 : decode cX7_layParts 51 = .ok (.iload 4, 2) := by decide +kernel
theorem dX7_layParts_53 : decode cX7_layParts 53 = .ok (.iload 5, 2) := by decide +kernel
theorem dX7_layParts_55 : decode cX7_layParts 55 = .ok (.invokevirtual 71, 3) := by decide +kernel
theorem dX7_layParts_58 : decode cX7_layParts 58 = .ok (.aload_n 0, 1) := by decide +kernel
theorem dX7_layParts_59 : decode cX7_layParts 59 = .ok (.getfield 24, 3) := by decide +kernel
theorem dX7_layParts_62 : decode cX7_layParts 62 = .ok (.aload_n 0, 1) := by decide +kernel
theorem dX7_layParts_63 : decode cX7_layParts 63 = .ok (.getfield 12, 3) := by decide +kernel
theorem dX7_layParts_66 : decode cX7_layParts 66 = .ok (.getfield 147, 3) := by decide +kernel
theorem dX7_layParts_69 : decode cX7_layParts 69 = .ok (.iload 5, 2) := by decide +kernel
theorem dX7_layParts_71 : decode cX7_layParts 71 = .ok (.iload 5, 2) := by decide +kernel
theorem dX7_layParts_73 : decode cX7_layParts 73 = .ok (.iload_n 3, 1) := by decide +kernel
theorem dX7_layParts_74 : decode cX7_layParts 74 = .ok (.iadd, 1) := by decide +kernel
theorem dX7_layParts_75 : decode cX7_layParts 75 = .ok (.invokevirtual 71, 3) := by decide +kernel
theorem dX7_layParts_78 : decode cX7_layParts 78 = .ok (.aload_n 0, 1) := by decide +kernel
theorem dX7_layParts_79 : decode cX7_layParts 79 = .ok (.getfield 12, 3) := by decide +kernel
theorem dX7_layParts_82 : decode cX7_layParts 82 = .ok (.iload_n 1, 1) := by decide +kernel
theorem dX7_layParts_83 : decode cX7_layParts 83 = .ok (.iload_n 2, 1) := by decide +kernel
theorem dX7_layParts_84 : decode cX7_layParts 84 = .ok (.iadd, 1) := by decide +kernel
theorem dX7_layParts_85 : decode cX7_layParts 85 = .ok (.iload_n 3, 1) := by decide +kernel
theorem dX7_layParts_86 : decode cX7_layParts 86 = .ok (.iadd, 1) := by decide +kernel
theorem dX7_layParts_87 : decode cX7_layParts 87 = .ok (.invokevirtual 172, 3) := by decide +kernel
theorem dX7_layParts_90 : decode cX7_layParts 90 = .ok (.return_, 1) := by decide +kernel
theorem dX7_readSizes_0 : decode cX7_readSizes 0 = .ok (.aload_n 0, 1) := by decide +kernel
theorem dX7_readSizes_1 : decode cX7_readSizes 1 = .ok (.getfield 12, 3) := by decide +kernel
theorem dX7_readSizes_4 : decode cX7_readSizes 4 = .ok (.getfield 104, 3) := by decide +kernel
theorem dX7_readSizes_7 : decode cX7_readSizes 7 = .ok (.istore_n 2, 1) := by decide +kernel
theorem dX7_readSizes_8 : decode cX7_readSizes 8 = .ok (.aload_n 0, 1) := by decide +kernel
theorem dX7_readSizes_9 : decode cX7_readSizes 9 = .ok (.invokevirtual 142, 3) := by decide +kernel
theorem dX7_readSizes_12 : decode cX7_readSizes 12 = .ok (.lstore_n 3, 1) := by decide +kernel
theorem dX7_readSizes_13 : decode cX7_readSizes 13 = .ok (.aload_n 0, 1) := by decide +kernel
theorem dX7_readSizes_14 : decode cX7_readSizes 14 = .ok (.getfield 12, 3) := by decide +kernel
theorem dX7_readSizes_17 : decode cX7_readSizes 17 = .ok (.getfield 104, 3) := by decide +kernel
theorem dX7_readSizes_20 : decode cX7_readSizes 20 = .ok (.istore 5, 2) := by decide +kernel
theorem dX7_readSizes_22 : decode cX7_readSizes 22 = .ok (.lload_n 3, 1) := by decide +kernel
theorem dX7_readSizes_23 : decode cX7_readSizes 23 = .ok (.lconst 0, 1) := by decide +kernel
theorem dX7_readSizes_24 : decode cX7_readSizes 24 = .ok (.lcmp, 1) := by decide +kernel
theorem dX7_readSizes_25 : decode cX7_readSizes 25 = .ok (.ifCond .lt 10, 3) := by decide +kernel
theorem dX7_readSizes_28 : decode cX7_readSizes 28 = .ok (.aload_n 0, 1) := by decide +kernel
theorem dX7_readSizes_29 : decode cX7_readSizes 29 = .ok (.invokevirtual 188, 3) := by decide +kernel
theorem dX7_readSizes_32 : decode cX7_readSizes 32 = .ok (.ifCond .ne 5, 3) := by decide +kernel
theorem dX7_readSizes_35 : decode cX7_readSizes 35 = .ok (.iconst 0, 1) := by decide +kernel
theorem dX7_readSizes_36 : decode cX7_readSizes 36 = .ok (.ireturn, 1) := by decide +kernel
theorem dX7_readSizes_37 : decode cX7_readSizes 37 = .ok (.aload_n 0, 1) := by decide +kernel
theorem dX7_readSizes_38 : decode cX7_readSizes 38 = .ok (.invokevirtual 142, 3) := by decide +kernel
theorem dX7_readSizes_41 : decode cX7_readSizes 41 = .ok (.lstore 6, 2) := by decide +kernel
theorem dX7_readSizes_43 : decode cX7_readSizes 43 = .ok (.lload 6, 2) := by decide +kernel
theorem dX7_readSizes_45 : decode cX7_readSizes 45 = .ok (.lconst 0, 1) := by decide +kernel
theorem dX7_readSizes_46 : decode cX7_readSizes 46 = .ok (.lcmp, 1) := by decide +kernel
theorem dX7_readSizes_47 : decode cX7_readSizes 47 = .ok (.ifCond .ge 8, 3) := by decide +kernel
theorem dX7_readSizes_50 : decode cX7_readSizes 50 = .ok (.lload 6, 2) := by decide +kernel
theorem dX7_readSizes_52 : decode cX7_readSizes 52 = .ok (.goto 7, 3) := by decide +kernel
theorem dX7_readSizes_55 : decode cX7_readSizes 55 = .ok (.aload_n 0, 1) := by decide +kernel
theorem dX7_readSizes_56 : decode cX7_readSizes 56 = .ok (.invokevirtual 142, 3) := by decide +kernel
theorem dX7_readSizes_59 : decode cX7_readSizes 59 = .ok (.lstore 8, 2) := by decide +kernel
theorem dX7_readSizes_61 : decode cX7_readSizes 61 = .ok (.lload 8, 2) := by decide +kernel
theorem dX7_readSizes_63 : decode cX7_readSizes 63 = .ok (.lconst 0, 1) := by decide +kernel
theorem dX7_readSizes_64 : decode cX7_readSizes 64 = .ok (.lcmp, 1) := by decide +kernel
theorem dX7_readSizes_65 : decode cX7_readSizes 65 = .ok (.ifCond .ge 8, 3) := by decide +kernel
theorem dX7_readSizes_68 : decode cX7_readSizes 68 = .ok (.lload 8, 2) := by decide +kernel
theorem dX7_readSizes_70 : decode cX7_readSizes 70 = .ok (.goto 7, 3) := by decide +kernel
theorem dX7_readSizes_73 : decode cX7_readSizes 73 = .ok (.aload_n 0, 1) := by decide +kernel
theorem dX7_readSizes_74 : decode cX7_readSizes 74 = .ok (.invokevirtual 142, 3) := by decide +kernel
theorem dX7_readSizes_77 : decode cX7_readSizes 77 = .ok (.lstore 10, 2) := by decide +kernel
theorem dX7_readSizes_79 : decode cX7_readSizes 79 = .ok (.lload 10, 2) := by decide +kernel
theorem dX7_readSizes_81 : decode cX7_readSizes 81 = .ok (.lconst 0, 1) := by decide +kernel
theorem dX7_readSizes_82 : decode cX7_readSizes 82 = .ok (.lcmp, 1) := by decide +kernel
theorem dX7_readSizes_83 : decode cX7_readSizes 83 = .ok (.ifCond .ge 5, 3) := by decide +kernel
theorem dX7_readSizes_86 : decode cX7_readSizes 86 = .ok (.iconst 0, 1) := by decide +kernel
theorem dX7_readSizes_87 : decode cX7_readSizes 87 = .ok (.ireturn, 1) := by decide +kernel
theorem dX7_readSizes_88 : decode cX7_readSizes 88 = .ok (.iload_n 1, 1) := by decide +kernel
theorem dX7_readSizes_89 : decode cX7_readSizes 89 = .ok (.iconst 4, 1) := by decide +kernel
theorem dX7_readSizes_90 : decode cX7_readSizes 90 = .ok (.iand, 1) := by decide +kernel
theorem dX7_readSizes_91 : decode cX7_readSizes 91 = .ok (.ifCond .eq 7, 3) := by decide +kernel
theorem dX7_readSizes_94 : decode cX7_readSizes 94 = .ok (.iconst 4, 1) := by decide +kernel
theorem dX7_readSizes_95 : decode cX7_readSizes 95 = .ok (.goto 4, 3) := by decide +kernel
theorem dX7_readSizes_98 : decode cX7_readSizes 98 = .ok (.iconst 0, 1) := by decide +kernel
theorem dX7_readSizes_99 : decode cX7_readSizes 99 = .ok (.istore 12, 2) := by decide +kernel
theorem dX7_readSizes_101 : decode cX7_readSizes 101 = .ok (.aload_n 0, 1) := by decide +kernel
theorem dX7_readSizes_102 : decode cX7_readSizes 102 = .ok (.iload 12, 2) := by decide +kernel
theorem dX7_readSizes_104 : decode cX7_readSizes 104 = .ok (.i2l, 1) := by decide +kernel
theorem dX7_readSizes_105 : decode cX7_readSizes 105 = .ok (.invokevirtual 128, 3) := by decide +kernel
theorem dX7_readSizes_108 : decode cX7_readSizes 108 = .ok (.ifCond .eq 5, 3) := by decide +kernel
theorem dX7_readSizes_111 : decode cX7_readSizes 111 = .ok (.iconst 0, 1) := by decide +kernel
theorem dX7_readSizes_112 : decode cX7_readSizes 112 = .ok (.ireturn, 1) := by decide +kernel
theorem dX7_readSizes_113 : decode cX7_readSizes 113 = .ok (.aload_n 0, 1) := by decide +kernel
theorem dX7_readSizes_114 : decode cX7_readSizes 114 = .ok (.getfield 12, 3) := by decide +kernel
theorem dX7_readSizes_117 : decode cX7_readSizes 117 = .ok (.getfield 104, 3) := by decide +kernel
theorem dX7_readSizes_120 : decode cX7_readSizes 120 = .ok (.istore 13, 2) := by decide +kernel
theorem dX7_readSizes_122 : decode cX7_readSizes 122 = .ok (.aload_n 0, 1) := by decide +kernel
theorem dX7_readSizes_123 : decode cX7_readSizes 123 = .ok (.getfield 12, 3) := by decide +kernel
theorem dX7_readSizes_126 : decode cX7_readSizes 126 = .ok (.iload 12, 2) := by decide +kernel
theorem dX7_readSizes_128 : decode cX7_readSizes 128 = .ok (.invokevirtual 172, 3) := by decide +kernel
theorem dX7_readSizes_131 : decode cX7_readSizes 131 = .ok (.lload 6, 2) := by decide +kernel
theorem dX7_readSizes_133 : decode cX7_readSizes 133 = .ok (.lload 8, 2) := by decide +kernel
theorem dX7_readSizes_135 : decode cX7_readSizes 135 = .ok (.ladd, 1) := by decide +kernel
theorem dX7_readSizes_136 : decode cX7_readSizes 136 = .ok (.lload 10, 2) := by decide +kernel
theorem dX7_readSizes_138 : decode cX7_readSizes 138 = .ok (.ladd, 1) := by decide +kernel
theorem dX7_readSizes_139 : decode cX7_readSizes 139 = .ok (.lstore 14, 2) := by decide +kernel
theorem dX7_readSizes_141 : decode cX7_readSizes 141 = .ok (.lload_n 3, 1) := by decide +kernel
theorem dX7_readSizes_142 : decode cX7_readSizes 142 = .ok (.aload_n 0, 1) := by decide +kernel
theorem dX7_readSizes_143 : decode cX7_readSizes 143 = .ok (.getfield 12, 3) := by decide +kernel
theorem dX7_readSizes_146 : decode cX7_readSizes 146 = .ok (.getfield 104, 3) := by decide +kernel
theorem dX7_readSizes_149 : decode cX7_readSizes 149 = .ok (.iload 5, 2) := by decide +kernel
theorem dX7_readSizes_151 : decode cX7_readSizes 151 = .ok (.isub, 1) := by decide +kernel
theorem dX7_readSizes_152 : decode cX7_readSizes 152 = .ok (.i2l, 1) := by decide +kernel
theorem dX7_readSizes_153 : decode cX7_readSizes 153 = .ok (.lload 14, 2) := by decide +kernel
theorem dX7_readSizes_155 : decode cX7_readSizes 155 = .ok (.ladd, 1) := by decide +kernel
theorem dX7_readSizes_156 : decode cX7_readSizes 156 = .ok (.lcmp, 1) := by decide +kernel
theorem dX7_readSizes_157 : decode cX7_readSizes 157 = .ok (.ifCond .eq 11, 3) := by decide +kernel
theorem dX7_readSizes_160 : decode cX7_readSizes 160 = .ok (.aload_n 0, 1) := by decide +kernel
theorem dX7_readSizes_161 : decode cX7_readSizes 161 = .ok (.bipush 8, 2) := by decide +kernel
theorem dX7_readSizes_163 : decode cX7_readSizes 163 = .ok (.iload_n 2, 1) := by decide +kernel
theorem dX7_readSizes_164 : decode cX7_readSizes 164 = .ok (.invokevirtual 114, 3) := by decide +kernel
theorem dX7_readSizes_167 : decode cX7_readSizes 167 = .ok (.ireturn, 1) := by decide +kernel
theorem dX7_readSizes_168 : decode cX7_readSizes 168 = .ok (.aload_n 0, 1) := by decide +kernel
theorem dX7_readSizes_169 : decode cX7_readSizes 169 = .ok (.lload 14, 2) := by decide +kernel
theorem dX7_readSizes_171 : decode cX7_readSizes 171 = .ok (.invokevirtual 128, 3) := by decide +kernel
theorem dX7_readSizes_174 : decode cX7_readSizes 174 = .ok (.ifCond .eq 5, 3) := by decide +kernel
theorem dX7_readSizes_177 : decode cX7_readSizes 177 = .ok (.iconst 0, 1) := by decide +kernel
theorem dX7_readSizes_178 : decode cX7_readSizes 178 = .ok (.ireturn, 1) := by decide +kernel
theorem dX7_readSizes_179 : decode cX7_readSizes 179 = .ok (.aload_n 0, 1) := by decide +kernel
theorem dX7_readSizes_180 : decode cX7_readSizes 180 = .ok (.lload 6, 2) := by decide +kernel
theorem dX7_readSizes_182 : decode cX7_readSizes 182 = .ok (.l2i, 1) := by decide +kernel
theorem dX7_readSizes_183 : decode cX7_readSizes 183 = .ok (.lload 8, 2) := by decide +kernel
theorem dX7_readSizes_185 : decode cX7_readSizes 185 = .ok (.l2i, 1) := by decide +kernel
theorem dX7_readSizes_186 : decode cX7_readSizes 186 = .ok (.lload 10, 2) := by decide +kernel
theorem dX7_readSizes_188 : decode cX7_readSizes 188 = .ok (.l2i, 1) := by decide +kernel
theorem dX7_readSizes_189 : decode cX7_readSizes 189 = .ok (.invokevirtual 191, 3) := by decide +kernel
theorem dX7_readSizes_192 : decode cX7_readSizes 192 = .ok (.aload_n 0, 1) := by decide +kernel
theorem dX7_readSizes_193 : decode cX7_readSizes 193 = .ok (.getfield 27, 3) := by decide +kernel
theorem dX7_readSizes_196 : decode cX7_readSizes 196 = .ok (.aload_n 0, 1) := by decide +kernel
theorem dX7_readSizes_197 : decode cX7_readSizes 197 = .ok (.getfield 12, 3) := by decide +kernel
theorem dX7_readSizes_200 : decode cX7_readSizes 200 = .ok (.getfield 147, 3) := by decide +kernel
theorem dX7_readSizes_203 : decode cX7_readSizes 203 = .ok (.iload 13, 2) := by decide +kernel
theorem dX7_readSizes_205 : decode cX7_readSizes 205 = .ok (.iload 13, 2) := by decide +kernel
theorem dX7_readSizes_207 : decode cX7_readSizes 207 = .ok (.iload 12, 2) := by decide +kernel
theorem dX7_readSizes_209 : decode cX7_readSizes 209 = .ok (.iadd, 1) := by decide +kernel
theorem dX7_readSizes_210 : decode cX7_readSizes 210 = .ok (.invokevirtual 71, 3) := by decide +kernel
theorem dX7_readSizes_213 : decode cX7_readSizes 213 = .ok (.iconst 1, 1) := by decide +kernel
theorem dX7_readSizes_214 : decode cX7_readSizes 214 = .ok (.ireturn, 1) := by decide +kernel
theorem dX9_targetLength_0 : decode cX9_targetLength 0 = .ok (.aload_n 0, 1) := by decide +kernel
theorem dX9_targetLength_1 : decode cX9_targetLength 1 = .ok (.getfield 18, 3) := by decide +kernel
theorem dX9_targetLength_4 : decode cX9_targetLength 4 = .ok (.invokevirtual 28, 3) := by decide +kernel
theorem dX9_targetLength_7 : decode cX9_targetLength 7 = .ok (.aload_n 0, 1) := by decide +kernel
theorem dX9_targetLength_8 : decode cX9_targetLength 8 = .ok (.getfield 32, 3) := by decide +kernel
theorem dX9_targetLength_11 : decode cX9_targetLength 11 = .ok (.isub, 1) := by decide +kernel
theorem dX9_targetLength_12 : decode cX9_targetLength 12 = .ok (.ireturn, 1) := by decide +kernel
theorem dX9_here_0 : decode cX9_here 0 = .ok (.aload_n 0, 1) := by decide +kernel
theorem dX9_here_1 : decode cX9_here 1 = .ok (.getfield 25, 3) := by decide +kernel
theorem dX9_here_4 : decode cX9_here 4 = .ok (.aload_n 0, 1) := by decide +kernel
theorem dX9_here_5 : decode cX9_here 5 = .ok (.invokevirtual 35, 3) := by decide +kernel
theorem dX9_here_8 : decode cX9_here 8 = .ok (.iadd, 1) := by decide +kernel
theorem dX9_here_9 : decode cX9_here 9 = .ok (.ireturn, 1) := by decide +kernel
theorem dX7_wantedAddress_0 : decode cX7_wantedAddress 0 = .ok (.iload_n 1, 1) := by decide +kernel
theorem dX7_wantedAddress_1 : decode cX7_wantedAddress 1 = .ok (.iconst 2, 1) := by decide +kernel
theorem dX7_wantedAddress_2 : decode cX7_wantedAddress 2 = .ok (.isub, 1) := by decide +kernel
theorem dX7_wantedAddress_3 : decode cX7_wantedAddress 3 = .ok (.aload_n 0, 1) := by decide +kernel
theorem dX7_wantedAddress_4 : decode cX7_wantedAddress 4 = .ok (.getfield 56, 3) := by decide +kernel
theorem dX7_wantedAddress_7 : decode cX7_wantedAddress 7 = .ok (.getfield 78, 3) := by decide +kernel
theorem dX7_wantedAddress_10 : decode cX7_wantedAddress 10 = .ok (.isub, 1) := by decide +kernel
theorem dX7_wantedAddress_11 : decode cX7_wantedAddress 11 = .ok (.istore_n 3, 1) := by decide +kernel
theorem dX7_wantedAddress_12 : decode cX7_wantedAddress 12 = .ok (.iload_n 3, 1) := by decide +kernel
theorem dX7_wantedAddress_13 : decode cX7_wantedAddress 13 = .ok (.ifCond .lt 40, 3) := by decide +kernel
theorem dX7_wantedAddress_16 : decode cX7_wantedAddress 16 = .ok (.aload_n 0, 1) := by decide +kernel
theorem dX7_wantedAddress_17 : decode cX7_wantedAddress 17 = .ok (.getfield 24, 3) := by decide +kernel
theorem dX7_wantedAddress_20 : decode cX7_wantedAddress 20 = .ok (.invokevirtual 134, 3) := by decide +kernel
theorem dX7_wantedAddress_23 : decode cX7_wantedAddress 23 = .ok (.istore 4, 2) := by decide +kernel
theorem dX7_wantedAddress_25 : decode cX7_wantedAddress 25 = .ok (.iload 4, 2) := by decide +kernel
theorem dX7_wantedAddress_27 : decode cX7_wantedAddress 27 = .ok (.ifCond .ge 9, 3) := by decide +kernel
theorem dX7_wantedAddress_30 : decode cX7_wantedAddress 30 = .ok (.iload 4, 2) := by decide +kernel
theorem dX7_wantedAddress_32 : decode cX7_wantedAddress 32 = .ok (.i2l, 1) := by decide +kernel
theorem dX7_wantedAddress_33 : decode cX7_wantedAddress 33 = .ok (.goto 19, 3) := by decide +kernel
theorem dX7_wantedAddress_36 : decode cX7_wantedAddress 36 = .ok (.aload_n 0, 1) := by decide +kernel
theorem dX7_wantedAddress_37 : decode cX7_wantedAddress 37 = .ok (.getfield 60, 3) := by decide +kernel
theorem dX7_wantedAddress_40 : decode cX7_wantedAddress 40 = .ok (.sipush 256, 3) := by decide +kernel
theorem dX7_wantedAddress_43 : decode cX7_wantedAddress 43 = .ok (.iload_n 3, 1) := by decide +kernel
theorem dX7_wantedAddress_44 : decode cX7_wantedAddress 44 = .ok (.imul, 1) := by decide +kernel
theorem dX7_wantedAddress_45 : decode cX7_wantedAddress 45 = .ok (.iload 4, 2) := by decide +kernel
theorem dX7_wantedAddress_47 : decode cX7_wantedAddress 47 = .ok (.iadd, 1) := by decide +kernel
theorem dX7_wantedAddress_48 : decode cX7_wantedAddress 48 = .ok (.invokevirtual 246, 3) := by decide +kernel
theorem dX7_wantedAddress_51 : decode cX7_wantedAddress 51 = .ok (.i2l, 1) := by decide +kernel
theorem dX7_wantedAddress_52 : decode cX7_wantedAddress 52 = .ok (.lreturn, 1) := by decide +kernel
theorem dX7_wantedAddress_53 : decode cX7_wantedAddress 53 = .ok (.aload_n 0, 1) := by decide +kernel
theorem dX7_wantedAddress_54 : decode cX7_wantedAddress 54 = .ok (.getfield 24, 3) := by decide +kernel
theorem dX7_wantedAddress_57 : decode cX7_wantedAddress 57 = .ok (.invokevirtual 118, 3) := by decide +kernel
theorem dX7_wantedAddress_60 : decode cX7_wantedAddress 60 = .ok (.lstore 4, 2) := by decide +kernel
theorem dX7_wantedAddress_62 : decode cX7_wantedAddress 62 = .ok (.lload 4, 2) := by decide +kernel
theorem dX7_wantedAddress_64 : decode cX7_wantedAddress 64 = .ok (.lconst 0, 1) := by decide +kernel
theorem dX7_wantedAddress_65 : decode cX7_wantedAddress 65 = .ok (.lcmp, 1) := by decide +kernel
theorem dX7_wantedAddress_66 : decode cX7_wantedAddress 66 = .ok (.ifCond .lt 7, 3) := by decide +kernel
theorem dX7_wantedAddress_69 : decode cX7_wantedAddress 69 = .ok (.iload_n 1, 1) := by decide +kernel
theorem dX7_wantedAddress_70 : decode cX7_wantedAddress 70 = .ok (.ifCond .ne 6, 3) := by decide +kernel
theorem dX7_wantedAddress_73 : decode cX7_wantedAddress 73 = .ok (.lload 4, 2) := by decide +kernel
theorem dX7_wantedAddress_75 : decode cX7_wantedAddress 75 = .ok (.lreturn, 1) := by decide +kernel
theorem dX7_wantedAddress_76 : decode cX7_wantedAddress 76 = .ok (.iload_n 1, 1) := by decide +kernel
theorem dX7_wantedAddress_77 : decode cX7_wantedAddress 77 = .ok (.iconst 1, 1) := by decide +kernel
theorem dX7_wantedAddress_78 : decode cX7_wantedAddress 78 = .ok (.if_icmp .ne 11, 3) := by decide +kernel
theorem dX7_wantedAddress_81 : decode cX7_wantedAddress 81 = .ok (.iload_n 2, 1) := by decide +kernel
theorem dX7_wantedAddress_82 : decode cX7_wantedAddress 82 = .ok (.i2l, 1) := by decide +kernel
theorem dX7_wantedAddress_83 : decode cX7_wantedAddress 83 = .ok (.lload 4, 2) := by decide +kernel
theorem dX7_wantedAddress_85 : decode cX7_wantedAddress 85 = .ok (.lsub, 1) := by decide +kernel
theorem dX7_wantedAddress_86 : decode cX7_wantedAddress 86 = .ok (.goto 17, 3) := by decide +kernel
theorem dX7_wantedAddress_89 : decode cX7_wantedAddress 89 = .ok (.aload_n 0, 1) := by decide +kernel
theorem dX7_wantedAddress_90 : decode cX7_wantedAddress 90 = .ok (.getfield 60, 3) := by decide +kernel
theorem dX7_wantedAddress_93 : decode cX7_wantedAddress 93 = .ok (.iload_n 1, 1) := by decide +kernel
theorem dX7_wantedAddress_94 : decode cX7_wantedAddress 94 = .ok (.iconst 2, 1) := by decide +kernel
theorem dX7_wantedAddress_95 : decode cX7_wantedAddress 95 = .ok (.isub, 1) := by decide +kernel
theorem dX7_wantedAddress_96 : decode cX7_wantedAddress 96 = .ok (.invokevirtual 249, 3) := by decide +kernel
theorem dX7_wantedAddress_99 : decode cX7_wantedAddress 99 = .ok (.i2l, 1) := by decide +kernel
theorem dX7_wantedAddress_100 : decode cX7_wantedAddress 100 = .ok (.lload 4, 2) := by decide +kernel
theorem dX7_wantedAddress_102 : decode cX7_wantedAddress 102 = .ok (.ladd, 1) := by decide +kernel
theorem dX7_wantedAddress_103 : decode cX7_wantedAddress 103 = .ok (.lreturn, 1) := by decide +kernel
theorem dX9_at_0 : decode cX9_at 0 = .ok (.iload_n 1, 1) := by decide +kernel
theorem dX9_at_1 : decode cX9_at 1 = .ok (.aload_n 0, 1) := by decide +kernel
theorem dX9_at_2 : decode cX9_at 2 = .ok (.getfield 25, 3) := by decide +kernel
theorem dX9_at_5 : decode cX9_at 5 = .ok (.if_icmp .ge 19, 3) := by decide +kernel
theorem dX9_at_8 : decode cX9_at 8 = .ok (.aload_n 0, 1) := by decide +kernel
theorem dX9_at_9 : decode cX9_at 9 = .ok (.getfield 12, 3) := by decide +kernel
theorem dX9_at_12 : decode cX9_at 12 = .ok (.aload_n 0, 1) := by decide +kernel
theorem dX9_at_13 : decode cX9_at 13 = .ok (.getfield 21, 3) := by decide +kernel
theorem dX9_at_16 : decode cX9_at 16 = .ok (.iload_n 1, 1) := by decide +kernel
theorem dX9_at_17 : decode cX9_at 17 = .ok (.iadd, 1) := by decide +kernel
theorem dX9_at_18 : decode cX9_at 18 = .ok (.invokevirtual 38, 3) := by decide +kernel
theorem dX9_at_21 : decode cX9_at 21 = .ok (.goto 21, 3) := by decide +kernel
theorem dX9_at_24 : decode cX9_at 24 = .ok (.aload_n 0, 1) := by decide +kernel
theorem dX9_at_25 : decode cX9_at 25 = .ok (.getfield 18, 3) := by decide +kernel
theorem dX9_at_28 : decode cX9_at 28 = .ok (.aload_n 0, 1) := by decide +kernel
theorem dX9_at_29 : decode cX9_at 29 = .ok (.getfield 32, 3) := by decide +kernel
theorem dX9_at_32 : decode cX9_at 32 = .ok (.iload_n 1, 1) := by decide +kernel
theorem dX9_at_33 : decode cX9_at 33 = .ok (.iadd, 1) := by decide +kernel
theorem dX9_at_34 : decode cX9_at 34 = .ok (.aload_n 0, 1) := by decide +kernel
theorem dX9_at_35 : decode cX9_at 35 = .ok (.getfield 25, 3) := by decide +kernel
theorem dX9_at_38 : decode cX9_at 38 = .ok (.isub, 1) := by decide +kernel
theorem dX9_at_39 : decode cX9_at 39 = .ok (.invokevirtual 38, 3) := by decide +kernel
theorem dX9_at_42 : decode cX9_at 42 = .ok (.ireturn, 1) := by decide +kernel
theorem dX4_through_0 : decode cX4_through 0 = .ok (.aload_n 0, 1) := by decide +kernel
theorem dX4_through_1 : decode cX4_through 1 = .ok (.iload_n 1, 1) := by decide +kernel
theorem dX4_through_2 : decode cX4_through 2 = .ok (.iconst 1, 1) := by decide +kernel
theorem dX4_through_3 : decode cX4_through 3 = .ok (.invokevirtual 34, 3) := by decide +kernel
theorem dX4_through_6 : decode cX4_through 6 = .ok (.aload_n 0, 1) := by decide +kernel
theorem dX4_through_7 : decode cX4_through 7 = .ok (.iconst 5, 1) := by decide +kernel
theorem dX4_through_8 : decode cX4_through 8 = .ok (.iload_n 2, 1) := by decide +kernel
theorem dX4_through_9 : decode cX4_through 9 = .ok (.invokevirtual 34, 3) := by decide +kernel
theorem dX4_through_12 : decode cX4_through 12 = .ok (.aload_n 0, 1) := by decide +kernel
theorem dX4_through_13 : decode cX4_through 13 = .ok (.getfield 30, 3) := by decide +kernel
theorem dX4_through_16 : decode cX4_through 16 = .ok (.iconst 4, 1) := by decide +kernel
theorem dX4_through_17 : decode cX4_through 17 = .ok (.imul, 1) := by decide +kernel
theorem dX4_through_18 : decode cX4_through 18 = .ok (.istore 5, 2) := by decide +kernel
theorem dX4_through_20 : decode cX4_through 20 = .ok (.iload 5, 2) := by decide +kernel
theorem dX4_through_22 : decode cX4_through 22 = .ok (.iconst 4, 1) := by decide +kernel
theorem dX4_through_23 : decode cX4_through 23 = .ok (.iadd, 1) := by decide +kernel
theorem dX4_through_24 : decode cX4_through 24 = .ok (.aload_n 0, 1) := by decide +kernel
theorem dX4_through_25 : decode cX4_through 25 = .ok (.getfield 21, 3) := by decide +kernel
theorem dX4_through_28 : decode cX4_through 28 = .ok (.arraylength, 1) := by decide +kernel
theorem dX4_through_29 : decode cX4_through 29 = .ok (.if_icmp .gt 52, 3) := by decide +kernel
theorem dX4_through_32 : decode cX4_through 32 = .ok (.aload_n 0, 1) := by decide +kernel
theorem dX4_through_33 : decode cX4_through 33 = .ok (.getfield 21, 3) := by decide +kernel
theorem dX4_through_36 : decode cX4_through 36 = .ok (.iload 5, 2) := by decide +kernel
theorem dX4_through_38 : decode cX4_through 38 = .ok (.iload_n 1, 1) := by decide +kernel
theorem dX4_through_39 : decode cX4_through 39 = .ok (.iastore, 1) := by decide +kernel
theorem dX4_through_40 : decode cX4_through 40 = .ok (.aload_n 0, 1) := by decide +kernel
theorem dX4_through_41 : decode cX4_through 41 = .ok (.getfield 21, 3) := by decide +kernel
theorem dX4_through_44 : decode cX4_through 44 = .ok (.iload 5, 2) := by decide +kernel
theorem dX4_through_46 : decode cX4_through 46 = .ok (.iconst 1, 1) := by decide +kernel
theorem dX4_through_47 : decode cX4_through 47 = .ok (.iadd, 1) := by decide +kernel
theorem dX4_through_48 : decode cX4_through 48 = .ok (.iload_n 2, 1) := by decide +kernel
theorem dX4_through_49 : decode cX4_through 49 = .ok (.iastore, 1) := by decide +kernel
theorem dX4_through_50 : decode cX4_through 50 = .ok (.aload_n 0, 1) := by decide +kernel
theorem dX4_through_51 : decode cX4_through 51 = .ok (.getfield 21, 3) := by decide +kernel
theorem dX4_through_54 : decode cX4_through 54 = .ok (.iload 5, 2) := by decide +kernel
theorem dX4_through_56 : decode cX4_through 56 = .ok (.iconst 2, 1) := by decide +kernel
theorem dX4_through_57 : decode cX4_through 57 = .ok (.iadd, 1) := by decide +kernel
theorem dX4_through_58 : decode cX4_through 58 = .ok (.iload_n 3, 1) := by decide +kernel
theorem dX4_through_59 : decode cX4_through 59 = .ok (.iastore, 1) := by decide +kernel
theorem dX4_through_60 : decode cX4_through 60 = .ok (.aload_n 0, 1) := by decide +kernel
theorem dX4_through_61 : decode cX4_through 61 = .ok (.getfield 21, 3) := by decide +kernel
theorem dX4_through_64 : decode cX4_through 64 = .ok (.iload 5, 2) := by decide +kernel
theorem dX4_through_66 : decode cX4_through 66 = .ok (.iconst 3, 1) := by decide +kernel
theorem dX4_through_67 : decode cX4_through 67 = .ok (.iadd, 1) := by decide +kernel
theorem dX4_through_68 : decode cX4_through 68 = .ok (.iload 4, 2) := by decide +kernel
theorem dX4_through_70 : decode cX4_through 70 = .ok (.iastore, 1) := by decide +kernel
theorem dX4_through_71 : decode cX4_through 71 = .ok (.aload_n 0, 1) := by decide +kernel
theorem dX4_through_72 : decode cX4_through 72 = .ok (.dup, 1) := by decide +kernel
theorem dX4_through_73 : decode cX4_through 73 = .ok (.getfield 30, 3) := by decide +kernel
theorem dX4_through_76 : decode cX4_through 76 = .ok (.iconst 1, 1) := by decide +kernel
theorem dX4_through_77 : decode cX4_through 77 = .ok (.iadd, 1) := by decide +kernel
theorem dX4_through_78 : decode cX4_through 78 = .ok (.putfield 30, 3) := by decide +kernel
theorem dX4_through_81 : decode cX4_through 81 = .ok (.return_, 1) := by decide +kernel
theorem dX7_runCopy_0 : decode cX7_runCopy 0 = .ok (.aload_n 0, 1) := by decide +kernel
theorem dX7_runCopy_1 : decode cX7_runCopy 1 = .ok (.getfield 33, 3) := by decide +kernel
theorem dX7_runCopy_4 : decode cX7_runCopy 4 = .ok (.invokevirtual 235, 3) := by decide +kernel
theorem dX7_runCopy_7 : decode cX7_runCopy 7 = .ok (.istore_n 3, 1) := by decide +kernel
theorem dX7_runCopy_8 : decode cX7_runCopy 8 = .ok (.aload_n 0, 1) := by decide +kernel
theorem dX7_runCopy_9 : decode cX7_runCopy 9 = .ok (.iload_n 2, 1) := by decide +kernel
theorem dX7_runCopy_10 : decode cX7_runCopy 10 = .ok (.iload_n 3, 1) := by decide +kernel
theorem dX7_runCopy_11 : decode cX7_runCopy 11 = .ok (.invokevirtual 238, 3) := by decide +kernel
theorem dX7_runCopy_14 : decode cX7_runCopy 14 = .ok (.lstore 4, 2) := by decide +kernel
theorem dX7_runCopy_16 : decode cX7_runCopy 16 = .ok (.lload 4, 2) := by decide +kernel
theorem dX7_runCopy_18 : decode cX7_runCopy 18 = .ok (.lconst 0, 1) := by decide +kernel
theorem dX7_runCopy_19 : decode cX7_runCopy 19 = .ok (.lcmp, 1) := by decide +kernel
theorem dX7_runCopy_20 : decode cX7_runCopy 20 = .ok (.ifCond .lt 11, 3) := by decide +kernel
theorem dX7_runCopy_23 : decode cX7_runCopy 23 = .ok (.lload 4, 2) := by decide +kernel
theorem dX7_runCopy_25 : decode cX7_runCopy 25 = .ok (.iload_n 3, 1) := by decide +kernel
theorem dX7_runCopy_26 : decode cX7_runCopy 26 = .ok (.i2l, 1) := by decide +kernel
theorem dX7_runCopy_27 : decode cX7_runCopy 27 = .ok (.lcmp, 1) := by decide +kernel
theorem dX7_runCopy_28 : decode cX7_runCopy 28 = .ok (.ifCond .lt 14, 3) := by decide +kernel
theorem dX7_runCopy_31 : decode cX7_runCopy 31 = .ok (.aload_n 0, 1) := by decide +kernel
theorem dX7_runCopy_32 : decode cX7_runCopy 32 = .ok (.bipush 14, 2) := by decide +kernel
theorem dX7_runCopy_34 : decode cX7_runCopy 34 = .ok (.aload_n 0, 1) := by decide +kernel
theorem dX7_runCopy_35 : decode cX7_runCopy 35 = .ok (.getfield 201, 3) := by decide +kernel
theorem dX7_runCopy_38 : decode cX7_runCopy 38 = .ok (.invokevirtual 114, 3) := by decide +kernel
theorem dX7_runCopy_41 : decode cX7_runCopy 41 = .ok (.ireturn, 1) := by decide +kernel
theorem dX7_runCopy_42 : decode cX7_runCopy 42 = .ok (.lload 4, 2) := by decide +kernel
theorem dX7_runCopy_44 : decode cX7_runCopy 44 = .ok (.l2i, 1) := by decide +kernel
theorem dX7_runCopy_45 : decode cX7_runCopy 45 = .ok (.istore 6, 2) := by decide +kernel
theorem dX7_runCopy_47 : decode cX7_runCopy 47 = .ok (.iconst 0, 1) := by decide +kernel
theorem dX7_runCopy_48 : decode cX7_runCopy 48 = .ok (.istore 7, 2) := by decide +kernel
theorem dX7_runCopy_50 : decode cX7_runCopy 50 = .ok (.iload 7, 2) := by decide +kernel
theorem dX7_runCopy_52 : decode cX7_runCopy 52 = .ok (.iload_n 1, 1) := by decide +kernel
theorem dX7_runCopy_53 : decode cX7_runCopy 53 = .ok (.if_icmp .ge 28, 3) := by decide +kernel
theorem dX7_runCopy_56 : decode cX7_runCopy 56 = .ok (.aload_n 0, 1) := by decide +kernel
theorem dX7_runCopy_57 : decode cX7_runCopy 57 = .ok (.getfield 46, 3) := by decide +kernel
theorem dX7_runCopy_60 : decode cX7_runCopy 60 = .ok (.aload_n 0, 1) := by decide +kernel
theorem dX7_runCopy_61 : decode cX7_runCopy 61 = .ok (.getfield 33, 3) := by decide +kernel
theorem dX7_runCopy_64 : decode cX7_runCopy 64 = .ok (.iload 6, 2) := by decide +kernel
theorem dX7_runCopy_66 : decode cX7_runCopy 66 = .ok (.iload 7, 2) := by decide +kernel
theorem dX7_runCopy_68 : decode cX7_runCopy 68 = .ok (.iadd, 1) := by decide +kernel
theorem dX7_runCopy_69 : decode cX7_runCopy 69 = .ok (.invokevirtual 242, 3) := by decide +kernel
theorem dX7_runCopy_72 : decode cX7_runCopy 72 = .ok (.invokevirtual 228, 3) := by decide +kernel
theorem dX7_runCopy_75 : decode cX7_runCopy 75 = .ok (.iinc 7 1, 3) := by decide +kernel
theorem dX7_runCopy_78 : decode cX7_runCopy 78 = .ok (.goto (-28), 3) := by decide +kernel
theorem dX7_runCopy_81 : decode cX7_runCopy 81 = .ok (.aload_n 0, 1) := by decide +kernel
theorem dX7_runCopy_82 : decode cX7_runCopy 82 = .ok (.getfield 60, 3) := by decide +kernel
theorem dX7_runCopy_85 : decode cX7_runCopy 85 = .ok (.iload 6, 2) := by decide +kernel
theorem dX7_runCopy_87 : decode cX7_runCopy 87 = .ok (.invokevirtual 243, 3) := by decide +kernel
theorem dX7_runCopy_90 : decode cX7_runCopy 90 = .ok (.aload_n 0, 1) := by decide +kernel
theorem dX7_runCopy_91 : decode cX7_runCopy 91 = .ok (.getfield 64, 3) := by decide +kernel
theorem dX7_runCopy_94 : decode cX7_runCopy 94 = .ok (.iconst 3, 1) := by decide +kernel
theorem dX7_runCopy_95 : decode cX7_runCopy 95 = .ok (.iload_n 1, 1) := by decide +kernel
theorem dX7_runCopy_96 : decode cX7_runCopy 96 = .ok (.iload 6, 2) := by decide +kernel
theorem dX7_runCopy_98 : decode cX7_runCopy 98 = .ok (.iload_n 2, 1) := by decide +kernel
theorem dX7_runCopy_99 : decode cX7_runCopy 99 = .ok (.invokevirtual 231, 3) := by decide +kernel
theorem dX7_runCopy_102 : decode cX7_runCopy 102 = .ok (.iconst 1, 1) := by decide +kernel
theorem dX7_runCopy_103 : decode cX7_runCopy 103 = .ok (.ireturn, 1) := by decide +kernel
theorem dX7_runAdd_0 : decode cX7_runAdd 0 = .ok (.iload_n 1, 1) := by decide +kernel
theorem dX7_runAdd_1 : decode cX7_runAdd 1 = .ok (.aload_n 0, 1) := by decide +kernel
theorem dX7_runAdd_2 : decode cX7_runAdd 2 = .ok (.getfield 18, 3) := by decide +kernel
theorem dX7_runAdd_5 : decode cX7_runAdd 5 = .ok (.invokevirtual 107, 3) := by decide +kernel
theorem dX7_runAdd_8 : decode cX7_runAdd 8 = .ok (.if_icmp .le 14, 3) := by decide +kernel
theorem dX7_runAdd_11 : decode cX7_runAdd 11 = .ok (.aload_n 0, 1) := by decide +kernel
theorem dX7_runAdd_12 : decode cX7_runAdd 12 = .ok (.bipush 12, 2) := by decide +kernel
theorem dX7_runAdd_14 : decode cX7_runAdd 14 = .ok (.aload_n 0, 1) := by decide +kernel
theorem dX7_runAdd_15 : decode cX7_runAdd 15 = .ok (.getfield 201, 3) := by decide +kernel
theorem dX7_runAdd_18 : decode cX7_runAdd 18 = .ok (.invokevirtual 114, 3) := by decide +kernel
theorem dX7_runAdd_21 : decode cX7_runAdd 21 = .ok (.ireturn, 1) := by decide +kernel
theorem dX7_runAdd_22 : decode cX7_runAdd 22 = .ok (.iconst 0, 1) := by decide +kernel
theorem dX7_runAdd_23 : decode cX7_runAdd 23 = .ok (.istore_n 2, 1) := by decide +kernel
theorem dX7_runAdd_24 : decode cX7_runAdd 24 = .ok (.iload_n 2, 1) := by decide +kernel
theorem dX7_runAdd_25 : decode cX7_runAdd 25 = .ok (.iload_n 1, 1) := by decide +kernel
theorem dX7_runAdd_26 : decode cX7_runAdd 26 = .ok (.if_icmp .ge 23, 3) := by decide +kernel
theorem dX7_runAdd_29 : decode cX7_runAdd 29 = .ok (.aload_n 0, 1) := by decide +kernel
theorem dX7_runAdd_30 : decode cX7_runAdd 30 = .ok (.getfield 46, 3) := by decide +kernel
theorem dX7_runAdd_33 : decode cX7_runAdd 33 = .ok (.aload_n 0, 1) := by decide +kernel
theorem dX7_runAdd_34 : decode cX7_runAdd 34 = .ok (.getfield 18, 3) := by decide +kernel
theorem dX7_runAdd_37 : decode cX7_runAdd 37 = .ok (.invokevirtual 134, 3) := by decide +kernel
theorem dX7_runAdd_40 : decode cX7_runAdd 40 = .ok (.invokevirtual 228, 3) := by decide +kernel
theorem dX7_runAdd_43 : decode cX7_runAdd 43 = .ok (.iinc 2 1, 3) := by decide +kernel
theorem dX7_runAdd_46 : decode cX7_runAdd 46 = .ok (.goto (-22), 3) := by decide +kernel
theorem dX7_runAdd_49 : decode cX7_runAdd 49 = .ok (.aload_n 0, 1) := by decide +kernel
theorem dX7_runAdd_50 : decode cX7_runAdd 50 = .ok (.getfield 64, 3) := by decide +kernel
theorem dX7_runAdd_53 : decode cX7_runAdd 53 = .ok (.iconst 1, 1) := by decide +kernel
theorem dX7_runAdd_54 : decode cX7_runAdd 54 = .ok (.iload_n 1, 1) := by decide +kernel
theorem dX7_runAdd_55 : decode cX7_runAdd 55 = .ok (.iconst (-1), 1) := by decide +kernel
theorem dX7_runAdd_56 : decode cX7_runAdd 56 = .ok (.iconst 0, 1) := by decide +kernel
theorem dX7_runAdd_57 : decode cX7_runAdd 57 = .ok (.invokevirtual 231, 3) := by decide +kernel
theorem dX7_runAdd_60 : decode cX7_runAdd 60 = .ok (.iconst 1, 1) := by decide +kernel
theorem dX7_runAdd_61 : decode cX7_runAdd 61 = .ok (.ireturn, 1) := by decide +kernel
theorem dX7_runRun_0 : decode cX7_runRun 0 = .ok (.aload_n 0, 1) := by decide +kernel
theorem dX7_runRun_1 : decode cX7_runRun 1 = .ok (.getfield 18, 3) := by decide +kernel
theorem dX7_runRun_4 : decode cX7_runRun 4 = .ok (.invokevirtual 134, 3) := by decide +kernel
theorem dX7_runRun_7 : decode cX7_runRun 7 = .ok (.istore_n 2, 1) := by decide +kernel
theorem dX7_runRun_8 : decode cX7_runRun 8 = .ok (.iload_n 2, 1) := by decide +kernel
theorem dX7_runRun_9 : decode cX7_runRun 9 = .ok (.ifCond .ge 14, 3) := by decide +kernel
theorem dX7_runRun_12 : decode cX7_runRun 12 = .ok (.aload_n 0, 1) := by decide +kernel
theorem dX7_runRun_13 : decode cX7_runRun 13 = .ok (.bipush 12, 2) := by decide +kernel
theorem dX7_runRun_15 : decode cX7_runRun 15 = .ok (.aload_n 0, 1) := by decide +kernel
theorem dX7_runRun_16 : decode cX7_runRun 16 = .ok (.getfield 201, 3) := by decide +kernel
theorem dX7_runRun_19 : decode cX7_runRun 19 = .ok (.invokevirtual 114, 3) := by decide +kernel
theorem dX7_runRun_22 : decode cX7_runRun 22 = .ok (.ireturn, 1) := by decide +kernel
theorem dX7_runRun_23 : decode cX7_runRun 23 = .ok (.iconst 0, 1) := by decide +kernel
theorem dX7_runRun_24 : decode cX7_runRun 24 = .ok (.istore_n 3, 1) := by decide +kernel
theorem dX7_runRun_25 : decode cX7_runRun 25 = .ok (.iload_n 3, 1) := by decide +kernel
theorem dX7_runRun_26 : decode cX7_runRun 26 = .ok (.iload_n 1, 1) := by decide +kernel
theorem dX7_runRun_27 : decode cX7_runRun 27 = .ok (.if_icmp .ge 17, 3) := by decide +kernel
theorem dX7_runRun_30 : decode cX7_runRun 30 = .ok (.aload_n 0, 1) := by decide +kernel
theorem dX7_runRun_31 : decode cX7_runRun 31 = .ok (.getfield 46, 3) := by decide +kernel
theorem dX7_runRun_34 : decode cX7_runRun 34 = .ok (.iload_n 2, 1) := by decide +kernel
theorem dX7_runRun_35 : decode cX7_runRun 35 = .ok (.invokevirtual 228, 3) := by decide +kernel
theorem dX7_runRun_38 : decode cX7_runRun 38 = .ok (.iinc 3 1, 3) := by decide +kernel
theorem dX7_runRun_41 : decode cX7_runRun 41 = .ok (.goto (-16), 3) := by decide +kernel
theorem dX7_runRun_44 : decode cX7_runRun 44 = .ok (.aload_n 0, 1) := by decide +kernel
theorem dX7_runRun_45 : decode cX7_runRun 45 = .ok (.getfield 64, 3) := by decide +kernel
theorem dX7_runRun_48 : decode cX7_runRun 48 = .ok (.iconst 2, 1) := by decide +kernel
theorem dX7_runRun_49 : decode cX7_runRun 49 = .ok (.iload_n 1, 1) := by decide +kernel
theorem dX7_runRun_50 : decode cX7_runRun 50 = .ok (.iconst (-1), 1) := by decide +kernel
theorem dX7_runRun_51 : decode cX7_runRun 51 = .ok (.iconst 0, 1) := by decide +kernel
theorem dX7_runRun_52 : decode cX7_runRun 52 = .ok (.invokevirtual 231, 3) := by decide +kernel
theorem dX7_runRun_55 : decode cX7_runRun 55 = .ok (.iconst 1, 1) := by decide +kernel
theorem dX7_runRun_56 : decode cX7_runRun 56 = .ok (.ireturn, 1) := by decide +kernel
theorem dX7_runHalf_0 : decode cX7_runHalf 0 = .ok (.aload_n 0, 1) := by decide +kernel
theorem dX7_runHalf_1 : decode cX7_runHalf 1 = .ok (.getfield 56, 3) := by decide +kernel
theorem dX7_runHalf_4 : decode cX7_runHalf 4 = .ok (.iload_n 1, 1) := by decide +kernel
theorem dX7_runHalf_5 : decode cX7_runHalf 5 = .ok (.iload_n 2, 1) := by decide +kernel
theorem dX7_runHalf_6 : decode cX7_runHalf 6 = .ok (.iconst 0, 1) := by decide +kernel
theorem dX7_runHalf_7 : decode cX7_runHalf 7 = .ok (.iadd, 1) := by decide +kernel
theorem dX7_runHalf_8 : decode cX7_runHalf 8 = .ok (.invokevirtual 204, 3) := by decide +kernel
theorem dX7_runHalf_11 : decode cX7_runHalf 11 = .ok (.istore_n 3, 1) := by decide +kernel
theorem dX7_runHalf_12 : decode cX7_runHalf 12 = .ok (.iload_n 3, 1) := by decide +kernel
theorem dX7_runHalf_13 : decode cX7_runHalf 13 = .ok (.ifCond .ne 5, 3) := by decide +kernel
theorem dX7_runHalf_16 : decode cX7_runHalf 16 = .ok (.iconst 1, 1) := by decide +kernel
theorem dX7_runHalf_17 : decode cX7_runHalf 17 = .ok (.ireturn, 1) := by decide +kernel
theorem dX7_runHalf_18 : decode cX7_runHalf 18 = .ok (.aload_n 0, 1) := by decide +kernel
theorem dX7_runHalf_19 : decode cX7_runHalf 19 = .ok (.getfield 56, 3) := by decide +kernel
theorem dX7_runHalf_22 : decode cX7_runHalf 22 = .ok (.iload_n 1, 1) := by decide +kernel
theorem dX7_runHalf_23 : decode cX7_runHalf 23 = .ok (.iload_n 2, 1) := by decide +kernel
theorem dX7_runHalf_24 : decode cX7_runHalf 24 = .ok (.iconst 1, 1) := by decide +kernel
theorem dX7_runHalf_25 : decode cX7_runHalf 25 = .ok (.iadd, 1) := by decide +kernel
theorem dX7_runHalf_26 : decode cX7_runHalf 26 = .ok (.invokevirtual 204, 3) := by decide +kernel
theorem dX7_runHalf_29 : decode cX7_runHalf 29 = .ok (.i2l, 1) := by decide +kernel
theorem dX7_runHalf_30 : decode cX7_runHalf 30 = .ok (.lstore 4, 2) := by decide +kernel
theorem dX7_runHalf_32 : decode cX7_runHalf 32 = .ok (.lload 4, 2) := by decide +kernel
theorem dX7_runHalf_34 : decode cX7_runHalf 34 = .ok (.lconst 0, 1) := by decide +kernel
theorem dX7_runHalf_35 : decode cX7_runHalf 35 = .ok (.lcmp, 1) := by decide +kernel
theorem dX7_runHalf_36 : decode cX7_runHalf 36 = .ok (.ifCond .ne 12, 3) := by decide +kernel
theorem dX7_runHalf_39 : decode cX7_runHalf 39 = .ok (.aload_n 0, 1) := by decide +kernel
theorem dX7_runHalf_40 : decode cX7_runHalf 40 = .ok (.getfield 21, 3) := by decide +kernel
theorem dX7_runHalf_43 : decode cX7_runHalf 43 = .ok (.invokevirtual 118, 3) := by decide +kernel
theorem dX7_runHalf_46 : decode cX7_runHalf 46 = .ok (.lstore 4, 2) := by decide +kernel
theorem dX7_runHalf_48 : decode cX7_runHalf 48 = .ok (.lload 4, 2) := by decide +kernel
theorem dX7_runHalf_50 : decode cX7_runHalf 50 = .ok (.lconst 0, 1) := by decide +kernel
theorem dX7_runHalf_51 : decode cX7_runHalf 51 = .ok (.lcmp, 1) := by decide +kernel
theorem dX7_runHalf_52 : decode cX7_runHalf 52 = .ok (.ifCond .ge 14, 3) := by decide +kernel
theorem dX7_runHalf_55 : decode cX7_runHalf 55 = .ok (.aload_n 0, 1) := by decide +kernel
theorem dX7_runHalf_56 : decode cX7_runHalf 56 = .ok (.bipush 11, 2) := by decide +kernel
theorem dX7_runHalf_58 : decode cX7_runHalf 58 = .ok (.aload_n 0, 1) := by decide +kernel
theorem dX7_runHalf_59 : decode cX7_runHalf 59 = .ok (.getfield 201, 3) := by decide +kernel
theorem dX7_runHalf_62 : decode cX7_runHalf 62 = .ok (.invokevirtual 114, 3) := by decide +kernel
theorem dX7_runHalf_65 : decode cX7_runHalf 65 = .ok (.ireturn, 1) := by decide +kernel
theorem dX7_runHalf_66 : decode cX7_runHalf 66 = .ok (.lload 4, 2) := by decide +kernel
theorem dX7_runHalf_68 : decode cX7_runHalf 68 = .ok (.aload_n 0, 1) := by decide +kernel
theorem dX7_runHalf_69 : decode cX7_runHalf 69 = .ok (.getfield 195, 3) := by decide +kernel
theorem dX7_runHalf_72 : decode cX7_runHalf 72 = .ok (.aload_n 0, 1) := by decide +kernel
theorem dX7_runHalf_73 : decode cX7_runHalf 73 = .ok (.getfield 33, 3) := by decide +kernel
theorem dX7_runHalf_76 : decode cX7_runHalf 76 = .ok (.invokevirtual 211, 3) := by decide +kernel
theorem dX7_runHalf_79 : decode cX7_runHalf 79 = .ok (.isub, 1) := by decide +kernel
theorem dX7_runHalf_80 : decode cX7_runHalf 80 = .ok (.i2l, 1) := by decide +kernel
theorem dX7_runHalf_81 : decode cX7_runHalf 81 = .ok (.lcmp, 1) := by decide +kernel
theorem dX7_runHalf_82 : decode cX7_runHalf 82 = .ok (.ifCond .le 14, 3) := by decide +kernel
theorem dX7_runHalf_85 : decode cX7_runHalf 85 = .ok (.aload_n 0, 1) := by decide +kernel
theorem dX7_runHalf_86 : decode cX7_runHalf 86 = .ok (.bipush 13, 2) := by decide +kernel
theorem dX7_runHalf_88 : decode cX7_runHalf 88 = .ok (.aload_n 0, 1) := by decide +kernel
theorem dX7_runHalf_89 : decode cX7_runHalf 89 = .ok (.getfield 201, 3) := by decide +kernel
theorem dX7_runHalf_92 : decode cX7_runHalf 92 = .ok (.invokevirtual 114, 3) := by decide +kernel
theorem dX7_runHalf_95 : decode cX7_runHalf 95 = .ok (.ireturn, 1) := by decide +kernel
theorem dX7_runHalf_96 : decode cX7_runHalf 96 = .ok (.iload_n 3, 1) := by decide +kernel
theorem dX7_runHalf_97 : decode cX7_runHalf 97 = .ok (.iconst 3, 1) := by decide +kernel
theorem dX7_runHalf_98 : decode cX7_runHalf 98 = .ok (.if_icmp .ne 22, 3) := by decide +kernel
theorem dX7_runHalf_101 : decode cX7_runHalf 101 = .ok (.aload_n 0, 1) := by decide +kernel
theorem dX7_runHalf_102 : decode cX7_runHalf 102 = .ok (.lload 4, 2) := by decide +kernel
theorem dX7_runHalf_104 : decode cX7_runHalf 104 = .ok (.l2i, 1) := by decide +kernel
theorem dX7_runHalf_105 : decode cX7_runHalf 105 = .ok (.aload_n 0, 1) := by decide +kernel
theorem dX7_runHalf_106 : decode cX7_runHalf 106 = .ok (.getfield 56, 3) := by decide +kernel
theorem dX7_runHalf_109 : decode cX7_runHalf 109 = .ok (.iload_n 1, 1) := by decide +kernel
theorem dX7_runHalf_110 : decode cX7_runHalf 110 = .ok (.iload_n 2, 1) := by decide +kernel
theorem dX7_runHalf_111 : decode cX7_runHalf 111 = .ok (.iconst 2, 1) := by decide +kernel
theorem dX7_runHalf_112 : decode cX7_runHalf 112 = .ok (.iadd, 1) := by decide +kernel
theorem dX7_runHalf_113 : decode cX7_runHalf 113 = .ok (.invokevirtual 204, 3) := by decide +kernel
theorem dX7_runHalf_116 : decode cX7_runHalf 116 = .ok (.invokevirtual 219, 3) := by decide +kernel
theorem dX7_runHalf_119 : decode cX7_runHalf 119 = .ok (.ireturn, 1) := by decide +kernel
theorem dX7_runHalf_120 : decode cX7_runHalf 120 = .ok (.iload_n 3, 1) := by decide +kernel
theorem dX7_runHalf_121 : decode cX7_runHalf 121 = .ok (.iconst 1, 1) := by decide +kernel
theorem dX7_runHalf_122 : decode cX7_runHalf 122 = .ok (.if_icmp .ne 13, 3) := by decide +kernel
theorem dX7_runHalf_125 : decode cX7_runHalf 125 = .ok (.aload_n 0, 1) := by decide +kernel
theorem dX7_runHalf_126 : decode cX7_runHalf 126 = .ok (.lload 4, 2) := by decide +kernel
theorem dX7_runHalf_128 : decode cX7_runHalf 128 = .ok (.l2i, 1) := by decide +kernel
theorem dX7_runHalf_129 : decode cX7_runHalf 129 = .ok (.invokevirtual 222, 3) := by decide +kernel
theorem dX7_runHalf_132 : decode cX7_runHalf 132 = .ok (.goto 10, 3) := by decide +kernel
theorem dX7_runHalf_135 : decode cX7_runHalf 135 = .ok (.aload_n 0, 1) := by decide +kernel
theorem dX7_runHalf_136 : decode cX7_runHalf 136 = .ok (.lload 4, 2) := by decide +kernel
theorem dX7_runHalf_138 : decode cX7_runHalf 138 = .ok (.l2i, 1) := by decide +kernel
theorem dX7_runHalf_139 : decode cX7_runHalf 139 = .ok (.invokevirtual 225, 3) := by decide +kernel
theorem dX7_runHalf_142 : decode cX7_runHalf 142 = .ok (.ireturn, 1) := by decide +kernel
theorem dX9_sum_0 : decode cX9_sum 0 = .ok (.aload_n 0, 1) := by decide +kernel
theorem dX9_sum_1 : decode cX9_sum 1 = .ok (.getfield 18, 3) := by decide +kernel
theorem dX9_sum_4 : decode cX9_sum 4 = .ok (.aload_n 0, 1) := by decide +kernel
theorem dX9_sum_5 : decode cX9_sum 5 = .ok (.getfield 32, 3) := by decide +kernel
theorem dX9_sum_8 : decode cX9_sum 8 = .ok (.aload_n 0, 1) := by decide +kernel
theorem dX9_sum_9 : decode cX9_sum 9 = .ok (.getfield 18, 3) := by decide +kernel
theorem dX9_sum_12 : decode cX9_sum 12 = .ok (.invokevirtual 28, 3) := by decide +kernel
theorem dX9_sum_15 : decode cX9_sum 15 = .ok (.invokevirtual 42, 3) := by decide +kernel
theorem dX9_sum_18 : decode cX9_sum 18 = .ok (.lreturn, 1) := by decide +kernel
theorem dX7_judgeSum_0 : decode cX7_judgeSum 0 = .ok (.aload_n 0, 1) := by decide +kernel
theorem dX7_judgeSum_1 : decode cX7_judgeSum 1 = .ok (.getfield 27, 3) := by decide +kernel
theorem dX7_judgeSum_4 : decode cX7_judgeSum 4 = .ok (.invokevirtual 107, 3) := by decide +kernel
theorem dX7_judgeSum_7 : decode cX7_judgeSum 7 = .ok (.ifCond .ne 4, 3) := by decide +kernel
theorem dX7_judgeSum_10 : decode cX7_judgeSum 10 = .ok (.return_, 1) := by decide +kernel
theorem dX7_judgeSum_11 : decode cX7_judgeSum 11 = .ok (.aload_n 0, 1) := by decide +kernel
theorem dX7_judgeSum_12 : decode cX7_judgeSum 12 = .ok (.getfield 27, 3) := by decide +kernel
theorem dX7_judgeSum_15 : decode cX7_judgeSum 15 = .ok (.getfield 104, 3) := by decide +kernel
theorem dX7_judgeSum_18 : decode cX7_judgeSum 18 = .ok (.istore_n 1, 1) := by decide +kernel
theorem dX7_judgeSum_19 : decode cX7_judgeSum 19 = .ok (.lconst 0, 1) := by decide +kernel
theorem dX7_judgeSum_20 : decode cX7_judgeSum 20 = .ok (.lstore_n 2, 1) := by decide +kernel
theorem dX7_judgeSum_21 : decode cX7_judgeSum 21 = .ok (.iconst 0, 1) := by decide +kernel
theorem dX7_judgeSum_22 : decode cX7_judgeSum 22 = .ok (.istore 4, 2) := by decide +kernel
theorem dX7_judgeSum_24 : decode cX7_judgeSum 24 = .ok (.iload 4, 2) := by decide +kernel
theorem dX7_judgeSum_26 : decode cX7_judgeSum 26 = .ok (.iconst 4, 1) := by decide +kernel
theorem dX7_judgeSum_27 : decode cX7_judgeSum 27 = .ok (.if_icmp .ge 24, 3) := by decide +kernel
theorem dX7_judgeSum_30 : decode cX7_judgeSum 30 = .ok (.lload_n 2, 1) := by decide +kernel
theorem dX7_judgeSum_31 : decode cX7_judgeSum 31 = .ok (.ldc2_w 132, 3) := by decide +kernel
theorem dX7_judgeSum_34 : decode cX7_judgeSum 34 = .ok (.lmul, 1) := by decide +kernel
theorem dX7_judgeSum_35 : decode cX7_judgeSum 35 = .ok (.aload_n 0, 1) := by decide +kernel
theorem dX7_judgeSum_36 : decode cX7_judgeSum 36 = .ok (.getfield 27, 3) := by decide +kernel
theorem dX7_judgeSum_39 : decode cX7_judgeSum 39 = .ok (.invokevirtual 134, 3) := by decide +kernel
theorem dX7_judgeSum_42 : decode cX7_judgeSum 42 = .ok (.i2l, 1) := by decide +kernel
theorem dX7_judgeSum_43 : decode cX7_judgeSum 43 = .ok (.ladd, 1) := by decide +kernel
theorem dX7_judgeSum_44 : decode cX7_judgeSum 44 = .ok (.lstore_n 2, 1) := by decide +kernel
theorem dX7_judgeSum_45 : decode cX7_judgeSum 45 = .ok (.iinc 4 1, 3) := by decide +kernel
theorem dX7_judgeSum_48 : decode cX7_judgeSum 48 = .ok (.goto (-24), 3) := by decide +kernel
theorem dX7_judgeSum_51 : decode cX7_judgeSum 51 = .ok (.lload_n 2, 1) := by decide +kernel
theorem dX7_judgeSum_52 : decode cX7_judgeSum 52 = .ok (.aload_n 0, 1) := by decide +kernel
theorem dX7_judgeSum_53 : decode cX7_judgeSum 53 = .ok (.getfield 33, 3) := by decide +kernel
theorem dX7_judgeSum_56 : decode cX7_judgeSum 56 = .ok (.invokevirtual 217, 3) := by decide +kernel
theorem dX7_judgeSum_59 : decode cX7_judgeSum 59 = .ok (.lcmp, 1) := by decide +kernel
theorem dX7_judgeSum_60 : decode cX7_judgeSum 60 = .ok (.ifCond .eq 11, 3) := by decide +kernel
theorem dX7_judgeSum_63 : decode cX7_judgeSum 63 = .ok (.aload_n 0, 1) := by decide +kernel
theorem dX7_judgeSum_64 : decode cX7_judgeSum 64 = .ok (.bipush 16, 2) := by decide +kernel
theorem dX7_judgeSum_66 : decode cX7_judgeSum 66 = .ok (.iload_n 1, 1) := by decide +kernel
theorem dX7_judgeSum_67 : decode cX7_judgeSum 67 = .ok (.invokevirtual 114, 3) := by decide +kernel
theorem dX7_judgeSum_70 : decode cX7_judgeSum 70 = .ok (.pop, 1) := by decide +kernel
theorem dX7_judgeSum_71 : decode cX7_judgeSum 71 = .ok (.return_, 1) := by decide +kernel
theorem dX7_runWindow_0 : decode cX7_runWindow 0 = .ok (.aload_n 0, 1) := by decide +kernel
theorem dX7_runWindow_1 : decode cX7_runWindow 1 = .ok (.getfield 60, 3) := by decide +kernel
theorem dX7_runWindow_4 : decode cX7_runWindow 4 = .ok (.invokevirtual 198, 3) := by decide +kernel
theorem dX7_runWindow_7 : decode cX7_runWindow 7 = .ok (.iconst 0, 1) := by decide +kernel
theorem dX7_runWindow_8 : decode cX7_runWindow 8 = .ok (.istore_n 1, 1) := by decide +kernel
theorem dX7_runWindow_9 : decode cX7_runWindow 9 = .ok (.iload_n 1, 1) := by decide +kernel
theorem dX7_runWindow_10 : decode cX7_runWindow 10 = .ok (.sipush 8000, 3) := by decide +kernel
theorem dX7_runWindow_13 : decode cX7_runWindow 13 = .ok (.if_icmp .ge 94, 3) := by decide +kernel
theorem dX7_runWindow_16 : decode cX7_runWindow 16 = .ok (.aload_n 0, 1) := by decide +kernel
theorem dX7_runWindow_17 : decode cX7_runWindow 17 = .ok (.getfield 49, 3) := by decide +kernel
theorem dX7_runWindow_20 : decode cX7_runWindow 20 = .ok (.ifCond .ne 87, 3) := by decide +kernel
theorem dX7_runWindow_23 : decode cX7_runWindow 23 = .ok (.aload_n 0, 1) := by decide +kernel
theorem dX7_runWindow_24 : decode cX7_runWindow 24 = .ok (.getfield 21, 3) := by decide +kernel
theorem dX7_runWindow_27 : decode cX7_runWindow 27 = .ok (.invokevirtual 107, 3) := by decide +kernel
theorem dX7_runWindow_30 : decode cX7_runWindow 30 = .ok (.ifCond .le 77, 3) := by decide +kernel
theorem dX7_runWindow_33 : decode cX7_runWindow 33 = .ok (.aload_n 0, 1) := by decide +kernel
theorem dX7_runWindow_34 : decode cX7_runWindow 34 = .ok (.aload_n 0, 1) := by decide +kernel
theorem dX7_runWindow_35 : decode cX7_runWindow 35 = .ok (.getfield 21, 3) := by decide +kernel
theorem dX7_runWindow_38 : decode cX7_runWindow 38 = .ok (.getfield 104, 3) := by decide +kernel
theorem dX7_runWindow_41 : decode cX7_runWindow 41 = .ok (.putfield 201, 3) := by decide +kernel
theorem dX7_runWindow_44 : decode cX7_runWindow 44 = .ok (.aload_n 0, 1) := by decide +kernel
theorem dX7_runWindow_45 : decode cX7_runWindow 45 = .ok (.getfield 21, 3) := by decide +kernel
theorem dX7_runWindow_48 : decode cX7_runWindow 48 = .ok (.invokevirtual 134, 3) := by decide +kernel
theorem dX7_runWindow_51 : decode cX7_runWindow 51 = .ok (.istore_n 2, 1) := by decide +kernel
theorem dX7_runWindow_52 : decode cX7_runWindow 52 = .ok (.aload_n 0, 1) := by decide +kernel
theorem dX7_runWindow_53 : decode cX7_runWindow 53 = .ok (.getfield 56, 3) := by decide +kernel
theorem dX7_runWindow_56 : decode cX7_runWindow 56 = .ok (.iload_n 2, 1) := by decide +kernel
theorem dX7_runWindow_57 : decode cX7_runWindow 57 = .ok (.iconst 0, 1) := by decide +kernel
theorem dX7_runWindow_58 : decode cX7_runWindow 58 = .ok (.invokevirtual 204, 3) := by decide +kernel
theorem dX7_runWindow_61 : decode cX7_runWindow 61 = .ok (.ifCond .eq 24, 3) := by decide +kernel
theorem dX7_runWindow_64 : decode cX7_runWindow 64 = .ok (.aload_n 0, 1) := by decide +kernel
theorem dX7_runWindow_65 : decode cX7_runWindow 65 = .ok (.getfield 56, 3) := by decide +kernel
theorem dX7_runWindow_68 : decode cX7_runWindow 68 = .ok (.iload_n 2, 1) := by decide +kernel
theorem dX7_runWindow_69 : decode cX7_runWindow 69 = .ok (.iconst 3, 1) := by decide +kernel
theorem dX7_runWindow_70 : decode cX7_runWindow 70 = .ok (.invokevirtual 204, 3) := by decide +kernel
theorem dX7_runWindow_73 : decode cX7_runWindow 73 = .ok (.ifCond .eq 12, 3) := by decide +kernel
theorem dX7_runWindow_76 : decode cX7_runWindow 76 = .ok (.aload_n 0, 1) := by decide +kernel
theorem dX7_runWindow_77 : decode cX7_runWindow 77 = .ok (.getfield 64, 3) := by decide +kernel
theorem dX7_runWindow_80 : decode cX7_runWindow 80 = .ok (.iconst 4, 1) := by decide +kernel
theorem dX7_runWindow_81 : decode cX7_runWindow 81 = .ok (.iconst 1, 1) := by decide +kernel
theorem dX7_runWindow_82 : decode cX7_runWindow 82 = .ok (.invokevirtual 166, 3) := by decide +kernel
theorem dX7_runWindow_85 : decode cX7_runWindow 85 = .ok (.aload_n 0, 1) := by decide +kernel
theorem dX7_runWindow_86 : decode cX7_runWindow 86 = .ok (.iload_n 2, 1) := by decide +kernel
theorem dX7_runWindow_87 : decode cX7_runWindow 87 = .ok (.iconst 0, 1) := by decide +kernel
theorem dX7_runWindow_88 : decode cX7_runWindow 88 = .ok (.invokevirtual 208, 3) := by decide +kernel
theorem dX7_runWindow_91 : decode cX7_runWindow 91 = .ok (.ifCond .eq 10, 3) := by decide +kernel
theorem dX7_runWindow_94 : decode cX7_runWindow 94 = .ok (.aload_n 0, 1) := by decide +kernel
theorem dX7_runWindow_95 : decode cX7_runWindow 95 = .ok (.iload_n 2, 1) := by decide +kernel
theorem dX7_runWindow_96 : decode cX7_runWindow 96 = .ok (.iconst 3, 1) := by decide +kernel
theorem dX7_runWindow_97 : decode cX7_runWindow 97 = .ok (.invokevirtual 208, 3) := by decide +kernel
theorem dX7_runWindow_100 : decode cX7_runWindow 100 = .ok (.pop, 1) := by decide +kernel
theorem dX7_runWindow_101 : decode cX7_runWindow 101 = .ok (.iinc 1 1, 3) := by decide +kernel
theorem dX7_runWindow_104 : decode cX7_runWindow 104 = .ok (.goto (-95), 3) := by decide +kernel
theorem dX7_runWindow_107 : decode cX7_runWindow 107 = .ok (.aload_n 0, 1) := by decide +kernel
theorem dX7_runWindow_108 : decode cX7_runWindow 108 = .ok (.getfield 49, 3) := by decide +kernel
theorem dX7_runWindow_111 : decode cX7_runWindow 111 = .ok (.ifCond .eq 4, 3) := by decide +kernel
theorem dX7_runWindow_114 : decode cX7_runWindow 114 = .ok (.return_, 1) := by decide +kernel
theorem dX7_runWindow_115 : decode cX7_runWindow 115 = .ok (.aload_n 0, 1) := by decide +kernel
theorem dX7_runWindow_116 : decode cX7_runWindow 116 = .ok (.getfield 33, 3) := by decide +kernel
theorem dX7_runWindow_119 : decode cX7_runWindow 119 = .ok (.invokevirtual 211, 3) := by decide +kernel
theorem dX7_runWindow_122 : decode cX7_runWindow 122 = .ok (.aload_n 0, 1) := by decide +kernel
theorem dX7_runWindow_123 : decode cX7_runWindow 123 = .ok (.getfield 195, 3) := by decide +kernel
theorem dX7_runWindow_126 : decode cX7_runWindow 126 = .ok (.if_icmp .lt 23, 3) := by decide +kernel
theorem dX7_runWindow_129 : decode cX7_runWindow 129 = .ok (.aload_n 0, 1) := by decide +kernel
theorem dX7_runWindow_130 : decode cX7_runWindow 130 = .ok (.getfield 18, 3) := by decide +kernel
theorem dX7_runWindow_133 : decode cX7_runWindow 133 = .ok (.invokevirtual 107, 3) := by decide +kernel
theorem dX7_runWindow_136 : decode cX7_runWindow 136 = .ok (.ifCond .gt 13, 3) := by decide +kernel
theorem dX7_runWindow_139 : decode cX7_runWindow 139 = .ok (.aload_n 0, 1) := by decide +kernel
theorem dX7_runWindow_140 : decode cX7_runWindow 140 = .ok (.getfield 24, 3) := by decide +kernel
theorem dX7_runWindow_143 : decode cX7_runWindow 143 = .ok (.invokevirtual 107, 3) := by decide +kernel
theorem dX7_runWindow_146 : decode cX7_runWindow 146 = .ok (.ifCond .le 20, 3) := by decide +kernel
theorem dX7_runWindow_149 : decode cX7_runWindow 149 = .ok (.aload_n 0, 1) := by decide +kernel
theorem dX7_runWindow_150 : decode cX7_runWindow 150 = .ok (.bipush 15, 2) := by decide +kernel
theorem dX7_runWindow_152 : decode cX7_runWindow 152 = .ok (.aload_n 0, 1) := by decide +kernel
theorem dX7_runWindow_153 : decode cX7_runWindow 153 = .ok (.getfield 21, 3) := by decide +kernel
theorem dX7_runWindow_156 : decode cX7_runWindow 156 = .ok (.getfield 104, 3) := by decide +kernel
theorem dX7_runWindow_159 : decode cX7_runWindow 159 = .ok (.invokevirtual 114, 3) := by decide +kernel
theorem dX7_runWindow_162 : decode cX7_runWindow 162 = .ok (.pop, 1) := by decide +kernel
theorem dX7_runWindow_163 : decode cX7_runWindow 163 = .ok (.goto 7, 3) := by decide +kernel
theorem dX7_runWindow_166 : decode cX7_runWindow 166 = .ok (.aload_n 0, 1) := by decide +kernel
theorem dX7_runWindow_167 : decode cX7_runWindow 167 = .ok (.invokevirtual 214, 3) := by decide +kernel
theorem dX7_runWindow_170 : decode cX7_runWindow 170 = .ok (.return_, 1) := by decide +kernel
theorem dX7_readWindows_0 : decode cX7_readWindows 0 = .ok (.iconst 0, 1) := by decide +kernel
theorem dX7_readWindows_1 : decode cX7_readWindows 1 = .ok (.istore_n 1, 1) := by decide +kernel
theorem dX7_readWindows_2 : decode cX7_readWindows 2 = .ok (.iload_n 1, 1) := by decide +kernel
theorem dX7_readWindows_3 : decode cX7_readWindows 3 = .ok (.sipush 8000, 3) := by decide +kernel
theorem dX7_readWindows_6 : decode cX7_readWindows 6 = .ok (.if_icmp .ge 93, 3) := by decide +kernel
theorem dX7_readWindows_9 : decode cX7_readWindows 9 = .ok (.aload_n 0, 1) := by decide +kernel
theorem dX7_readWindows_10 : decode cX7_readWindows 10 = .ok (.getfield 49, 3) := by decide +kernel
theorem dX7_readWindows_13 : decode cX7_readWindows 13 = .ok (.ifCond .ne 86, 3) := by decide +kernel
theorem dX7_readWindows_16 : decode cX7_readWindows 16 = .ok (.aload_n 0, 1) := by decide +kernel
theorem dX7_readWindows_17 : decode cX7_readWindows 17 = .ok (.getfield 12, 3) := by decide +kernel
theorem dX7_readWindows_20 : decode cX7_readWindows 20 = .ok (.invokevirtual 107, 3) := by decide +kernel
theorem dX7_readWindows_23 : decode cX7_readWindows 23 = .ok (.ifCond .le 76, 3) := by decide +kernel
theorem dX7_readWindows_26 : decode cX7_readWindows 26 = .ok (.aload_n 0, 1) := by decide +kernel
theorem dX7_readWindows_27 : decode cX7_readWindows 27 = .ok (.getfield 12, 3) := by decide +kernel
theorem dX7_readWindows_30 : decode cX7_readWindows 30 = .ok (.getfield 104, 3) := by decide +kernel
theorem dX7_readWindows_33 : decode cX7_readWindows 33 = .ok (.istore_n 2, 1) := by decide +kernel
theorem dX7_readWindows_34 : decode cX7_readWindows 34 = .ok (.aload_n 0, 1) := by decide +kernel
theorem dX7_readWindows_35 : decode cX7_readWindows 35 = .ok (.getfield 12, 3) := by decide +kernel
theorem dX7_readWindows_38 : decode cX7_readWindows 38 = .ok (.invokevirtual 134, 3) := by decide +kernel
theorem dX7_readWindows_41 : decode cX7_readWindows 41 = .ok (.istore_n 3, 1) := by decide +kernel
theorem dX7_readWindows_42 : decode cX7_readWindows 42 = .ok (.iload_n 3, 1) := by decide +kernel
theorem dX7_readWindows_43 : decode cX7_readWindows 43 = .ok (.bipush 7, 2) := by decide +kernel
theorem dX7_readWindows_45 : decode cX7_readWindows 45 = .ok (.if_icmp .gt 10, 3) := by decide +kernel
theorem dX7_readWindows_48 : decode cX7_readWindows 48 = .ok (.iload_n 3, 1) := by decide +kernel
theorem dX7_readWindows_49 : decode cX7_readWindows 49 = .ok (.iconst 3, 1) := by decide +kernel
theorem dX7_readWindows_50 : decode cX7_readWindows 50 = .ok (.iand, 1) := by decide +kernel
theorem dX7_readWindows_51 : decode cX7_readWindows 51 = .ok (.iconst 3, 1) := by decide +kernel
theorem dX7_readWindows_52 : decode cX7_readWindows 52 = .ok (.if_icmp .ne 12, 3) := by decide +kernel
theorem dX7_readWindows_55 : decode cX7_readWindows 55 = .ok (.aload_n 0, 1) := by decide +kernel
theorem dX7_readWindows_56 : decode cX7_readWindows 56 = .ok (.bipush 6, 2) := by decide +kernel
theorem dX7_readWindows_58 : decode cX7_readWindows 58 = .ok (.iload_n 2, 1) := by decide +kernel
theorem dX7_readWindows_59 : decode cX7_readWindows 59 = .ok (.invokevirtual 114, 3) := by decide +kernel
theorem dX7_readWindows_62 : decode cX7_readWindows 62 = .ok (.pop, 1) := by decide +kernel
theorem dX7_readWindows_63 : decode cX7_readWindows 63 = .ok (.return_, 1) := by decide +kernel
theorem dX7_readWindows_64 : decode cX7_readWindows 64 = .ok (.aload_n 0, 1) := by decide +kernel
theorem dX7_readWindows_65 : decode cX7_readWindows 65 = .ok (.getfield 64, 3) := by decide +kernel
theorem dX7_readWindows_68 : decode cX7_readWindows 68 = .ok (.iconst 0, 1) := by decide +kernel
theorem dX7_readWindows_69 : decode cX7_readWindows 69 = .ok (.iconst 1, 1) := by decide +kernel
theorem dX7_readWindows_70 : decode cX7_readWindows 70 = .ok (.invokevirtual 166, 3) := by decide +kernel
theorem dX7_readWindows_73 : decode cX7_readWindows 73 = .ok (.aload_n 0, 1) := by decide +kernel
theorem dX7_readWindows_74 : decode cX7_readWindows 74 = .ok (.iload_n 3, 1) := by decide +kernel
theorem dX7_readWindows_75 : decode cX7_readWindows 75 = .ok (.invokevirtual 175, 3) := by decide +kernel
theorem dX7_readWindows_78 : decode cX7_readWindows 78 = .ok (.ifCond .eq 15, 3) := by decide +kernel
theorem dX7_readWindows_81 : decode cX7_readWindows 81 = .ok (.aload_n 0, 1) := by decide +kernel
theorem dX7_readWindows_82 : decode cX7_readWindows 82 = .ok (.iload_n 3, 1) := by decide +kernel
theorem dX7_readWindows_83 : decode cX7_readWindows 83 = .ok (.invokevirtual 179, 3) := by decide +kernel
theorem dX7_readWindows_86 : decode cX7_readWindows 86 = .ok (.ifCond .eq 7, 3) := by decide +kernel
theorem dX7_readWindows_89 : decode cX7_readWindows 89 = .ok (.aload_n 0, 1) := by decide +kernel
theorem dX7_readWindows_90 : decode cX7_readWindows 90 = .ok (.invokevirtual 182, 3) := by decide +kernel
theorem dX7_readWindows_93 : decode cX7_readWindows 93 = .ok (.iinc 1 1, 3) := by decide +kernel
theorem dX7_readWindows_96 : decode cX7_readWindows 96 = .ok (.goto (-94), 3) := by decide +kernel
theorem dX7_readWindows_99 : decode cX7_readWindows 99 = .ok (.return_, 1) := by decide +kernel
theorem dX7_faultFound_0 : decode cX7_faultFound 0 = .ok (.aload_n 0, 1) := by decide +kernel
theorem dX7_faultFound_1 : decode cX7_faultFound 1 = .ok (.getfield 49, 3) := by decide +kernel
theorem dX7_faultFound_4 : decode cX7_faultFound 4 = .ok (.ireturn, 1) := by decide +kernel
theorem dX7_takeTable_0 : decode cX7_takeTable 0 = .ok (.aload_n 0, 1) := by decide +kernel
theorem dX7_takeTable_1 : decode cX7_takeTable 1 = .ok (.getfield 12, 3) := by decide +kernel
theorem dX7_takeTable_4 : decode cX7_takeTable 4 = .ok (.getfield 147, 3) := by decide +kernel
theorem dX7_takeTable_7 : decode cX7_takeTable 7 = .ok (.aload_n 0, 1) := by decide +kernel
theorem dX7_takeTable_8 : decode cX7_takeTable 8 = .ok (.getfield 98, 3) := by decide +kernel
theorem dX7_takeTable_11 : decode cX7_takeTable 11 = .ok (.invokevirtual 150, 3) := by decide +kernel
theorem dX7_takeTable_14 : decode cX7_takeTable 14 = .ok (.istore_n 2, 1) := by decide +kernel
theorem dX7_takeTable_15 : decode cX7_takeTable 15 = .ok (.aload_n 0, 1) := by decide +kernel
theorem dX7_takeTable_16 : decode cX7_takeTable 16 = .ok (.getfield 12, 3) := by decide +kernel
theorem dX7_takeTable_19 : decode cX7_takeTable 19 = .ok (.getfield 147, 3) := by decide +kernel
theorem dX7_takeTable_22 : decode cX7_takeTable 22 = .ok (.aload_n 0, 1) := by decide +kernel
theorem dX7_takeTable_23 : decode cX7_takeTable 23 = .ok (.getfield 98, 3) := by decide +kernel
theorem dX7_takeTable_26 : decode cX7_takeTable 26 = .ok (.iconst 1, 1) := by decide +kernel
theorem dX7_takeTable_27 : decode cX7_takeTable 27 = .ok (.iadd, 1) := by decide +kernel
theorem dX7_takeTable_28 : decode cX7_takeTable 28 = .ok (.invokevirtual 150, 3) := by decide +kernel
theorem dX7_takeTable_31 : decode cX7_takeTable 31 = .ok (.istore_n 3, 1) := by decide +kernel
theorem dX7_takeTable_32 : decode cX7_takeTable 32 = .ok (.iload_n 1, 1) := by decide +kernel
theorem dX7_takeTable_33 : decode cX7_takeTable 33 = .ok (.ifCond .eq 16, 3) := by decide +kernel
theorem dX7_takeTable_36 : decode cX7_takeTable 36 = .ok (.aload_n 0, 1) := by decide +kernel
theorem dX7_takeTable_37 : decode cX7_takeTable 37 = .ok (.getfield 46, 3) := by decide +kernel
theorem dX7_takeTable_40 : decode cX7_takeTable 40 = .ok (.invokevirtual 153, 3) := by decide +kernel
theorem dX7_takeTable_43 : decode cX7_takeTable 43 = .ok (.sipush 1536, 3) := by decide +kernel
theorem dX7_takeTable_46 : decode cX7_takeTable 46 = .ok (.if_icmp .eq 14, 3) := by decide +kernel
theorem dX7_takeTable_49 : decode cX7_takeTable 49 = .ok (.aload_n 0, 1) := by decide +kernel
theorem dX7_takeTable_50 : decode cX7_takeTable 50 = .ok (.iconst 5, 1) := by decide +kernel
theorem dX7_takeTable_51 : decode cX7_takeTable 51 = .ok (.aload_n 0, 1) := by decide +kernel
theorem dX7_takeTable_52 : decode cX7_takeTable 52 = .ok (.getfield 98, 3) := by decide +kernel
theorem dX7_takeTable_55 : decode cX7_takeTable 55 = .ok (.invokevirtual 114, 3) := by decide +kernel
theorem dX7_takeTable_58 : decode cX7_takeTable 58 = .ok (.pop, 1) := by decide +kernel
theorem dX7_takeTable_59 : decode cX7_takeTable 59 = .ok (.return_, 1) := by decide +kernel
theorem dX7_takeTable_60 : decode cX7_takeTable 60 = .ok (.aload_n 0, 1) := by decide +kernel
theorem dX7_takeTable_61 : decode cX7_takeTable 61 = .ok (.getfield 56, 3) := by decide +kernel
theorem dX7_takeTable_64 : decode cX7_takeTable 64 = .ok (.aload_n 0, 1) := by decide +kernel
theorem dX7_takeTable_65 : decode cX7_takeTable 65 = .ok (.getfield 46, 3) := by decide +kernel
theorem dX7_takeTable_68 : decode cX7_takeTable 68 = .ok (.iload_n 2, 1) := by decide +kernel
theorem dX7_takeTable_69 : decode cX7_takeTable 69 = .ok (.iload_n 3, 1) := by decide +kernel
theorem dX7_takeTable_70 : decode cX7_takeTable 70 = .ok (.invokevirtual 156, 3) := by decide +kernel
theorem dX7_takeTable_73 : decode cX7_takeTable 73 = .ok (.aload_n 0, 1) := by decide +kernel
theorem dX7_takeTable_74 : decode cX7_takeTable 74 = .ok (.getfield 56, 3) := by decide +kernel
theorem dX7_takeTable_77 : decode cX7_takeTable 77 = .ok (.invokevirtual 159, 3) := by decide +kernel
theorem dX7_takeTable_80 : decode cX7_takeTable 80 = .ok (.ifCond .ne 21, 3) := by decide +kernel
theorem dX7_takeTable_83 : decode cX7_takeTable 83 = .ok (.aload_n 0, 1) := by decide +kernel
theorem dX7_takeTable_84 : decode cX7_takeTable 84 = .ok (.getfield 56, 3) := by decide +kernel
theorem dX7_takeTable_87 : decode cX7_takeTable 87 = .ok (.invokevirtual 163, 3) := by decide +kernel
theorem dX7_takeTable_90 : decode cX7_takeTable 90 = .ok (.aload_n 0, 1) := by decide +kernel
theorem dX7_takeTable_91 : decode cX7_takeTable 91 = .ok (.iconst 5, 1) := by decide +kernel
theorem dX7_takeTable_92 : decode cX7_takeTable 92 = .ok (.aload_n 0, 1) := by decide +kernel
theorem dX7_takeTable_93 : decode cX7_takeTable 93 = .ok (.getfield 98, 3) := by decide +kernel
theorem dX7_takeTable_96 : decode cX7_takeTable 96 = .ok (.invokevirtual 114, 3) := by decide +kernel
theorem dX7_takeTable_99 : decode cX7_takeTable 99 = .ok (.pop, 1) := by decide +kernel
theorem dX7_takeTable_100 : decode cX7_takeTable 100 = .ok (.return_, 1) := by decide +kernel
theorem dX7_takeTable_101 : decode cX7_takeTable 101 = .ok (.aload_n 0, 1) := by decide +kernel
theorem dX7_takeTable_102 : decode cX7_takeTable 102 = .ok (.getfield 46, 3) := by decide +kernel
theorem dX7_takeTable_105 : decode cX7_takeTable 105 = .ok (.invokevirtual 75, 3) := by decide +kernel
theorem dX7_takeTable_108 : decode cX7_takeTable 108 = .ok (.aload_n 0, 1) := by decide +kernel
theorem dX7_takeTable_109 : decode cX7_takeTable 109 = .ok (.getfield 60, 3) := by decide +kernel
theorem dX7_takeTable_112 : decode cX7_takeTable 112 = .ok (.iload_n 2, 1) := by decide +kernel
theorem dX7_takeTable_113 : decode cX7_takeTable 113 = .ok (.iload_n 3, 1) := by decide +kernel
theorem dX7_takeTable_114 : decode cX7_takeTable 114 = .ok (.invokevirtual 86, 3) := by decide +kernel
theorem dX7_takeTable_117 : decode cX7_takeTable 117 = .ok (.aload_n 0, 1) := by decide +kernel
theorem dX7_takeTable_118 : decode cX7_takeTable 118 = .ok (.getfield 64, 3) := by decide +kernel
theorem dX7_takeTable_121 : decode cX7_takeTable 121 = .ok (.bipush 7, 2) := by decide +kernel
theorem dX7_takeTable_123 : decode cX7_takeTable 123 = .ok (.iconst 1, 1) := by decide +kernel
theorem dX7_takeTable_124 : decode cX7_takeTable 124 = .ok (.invokevirtual 166, 3) := by decide +kernel
theorem dX7_takeTable_127 : decode cX7_takeTable 127 = .ok (.aload_n 0, 1) := by decide +kernel
theorem dX7_takeTable_128 : decode cX7_takeTable 128 = .ok (.getfield 12, 3) := by decide +kernel
theorem dX7_takeTable_131 : decode cX7_takeTable 131 = .ok (.aload_n 0, 1) := by decide +kernel
theorem dX7_takeTable_132 : decode cX7_takeTable 132 = .ok (.getfield 12, 3) := by decide +kernel
theorem dX7_takeTable_135 : decode cX7_takeTable 135 = .ok (.getfield 147, 3) := by decide +kernel
theorem dX7_takeTable_138 : decode cX7_takeTable 138 = .ok (.aload_n 0, 1) := by decide +kernel
theorem dX7_takeTable_139 : decode cX7_takeTable 139 = .ok (.invokevirtual 169, 3) := by decide +kernel
theorem dX7_takeTable_142 : decode cX7_takeTable 142 = .ok (.aload_n 0, 1) := by decide +kernel
theorem dX7_takeTable_143 : decode cX7_takeTable 143 = .ok (.getfield 12, 3) := by decide +kernel
theorem dX7_takeTable_146 : decode cX7_takeTable 146 = .ok (.getfield 111, 3) := by decide +kernel
theorem dX7_takeTable_149 : decode cX7_takeTable 149 = .ok (.invokevirtual 71, 3) := by decide +kernel
theorem dX7_takeTable_152 : decode cX7_takeTable 152 = .ok (.return_, 1) := by decide +kernel
theorem dX11_open_0 : decode cX11_open 0 = .ok (.aload_n 0, 1) := by decide +kernel
theorem dX11_open_1 : decode cX11_open 1 = .ok (.getfield 40, 3) := by decide +kernel
theorem dX11_open_4 : decode cX11_open 4 = .ok (.aload_n 0, 1) := by decide +kernel
theorem dX11_open_5 : decode cX11_open 5 = .ok (.getfield 33, 3) := by decide +kernel
theorem dX11_open_8 : decode cX11_open 8 = .ok (.getfield 127, 3) := by decide +kernel
theorem dX11_open_11 : decode cX11_open 11 = .ok (.iconst 4, 1) := by decide +kernel
theorem dX11_open_12 : decode cX11_open 12 = .ok (.iconst 3, 1) := by decide +kernel
theorem dX11_open_13 : decode cX11_open 13 = .ok (.invokevirtual 130, 3) := by decide +kernel
theorem dX11_open_16 : decode cX11_open 16 = .ok (.aload_n 0, 1) := by decide +kernel
theorem dX11_open_17 : decode cX11_open 17 = .ok (.getfield 77, 3) := by decide +kernel
theorem dX11_open_20 : decode cX11_open 20 = .ok (.aload_n 0, 1) := by decide +kernel
theorem dX11_open_21 : decode cX11_open 21 = .ok (.getfield 14, 3) := by decide +kernel
theorem dX11_open_24 : decode cX11_open 24 = .ok (.iconst 0, 1) := by decide +kernel
theorem dX11_open_25 : decode cX11_open 25 = .ok (.aload_n 0, 1) := by decide +kernel
theorem dX11_open_26 : decode cX11_open 26 = .ok (.getfield 14, 3) := by decide +kernel
theorem dX11_open_29 : decode cX11_open 29 = .ok (.invokevirtual 95, 3) := by decide +kernel
theorem dX11_open_32 : decode cX11_open 32 = .ok (.aload_n 0, 1) := by decide +kernel
theorem dX11_open_33 : decode cX11_open 33 = .ok (.getfield 24, 3) := by decide +kernel
theorem dX11_open_36 : decode cX11_open 36 = .ok (.aload_n 0, 1) := by decide +kernel
theorem dX11_open_37 : decode cX11_open 37 = .ok (.getfield 21, 3) := by decide +kernel
theorem dX11_open_40 : decode cX11_open 40 = .ok (.invokevirtual 164, 3) := by decide +kernel
theorem dX11_open_43 : decode cX11_open 43 = .ok (.aload_n 0, 1) := by decide +kernel
theorem dX11_open_44 : decode cX11_open 44 = .ok (.getfield 77, 3) := by decide +kernel
theorem dX11_open_47 : decode cX11_open 47 = .ok (.invokevirtual 168, 3) := by decide +kernel
theorem dX11_open_50 : decode cX11_open 50 = .ok (.aload_n 0, 1) := by decide +kernel
theorem dX11_open_51 : decode cX11_open 51 = .ok (.getfield 77, 3) := by decide +kernel
theorem dX11_open_54 : decode cX11_open 54 = .ok (.invokevirtual 171, 3) := by decide +kernel
theorem dX11_open_57 : decode cX11_open 57 = .ok (.ifCond .eq 82, 3) := by decide +kernel
theorem dX11_open_60 : decode cX11_open 60 = .ok (.aload_n 0, 1) := by decide +kernel
theorem dX11_open_61 : decode cX11_open 61 = .ok (.getfield 81, 3) := by decide +kernel
theorem dX11_open_64 : decode cX11_open 64 = .ok (.aload_n 0, 1) := by decide +kernel
theorem dX11_open_65 : decode cX11_open 65 = .ok (.getfield 14, 3) := by decide +kernel
theorem dX11_open_68 : decode cX11_open 68 = .ok (.aload_n 0, 1) := by decide +kernel
theorem dX11_open_69 : decode cX11_open 69 = .ok (.getfield 77, 3) := by decide +kernel
theorem dX11_open_72 : decode cX11_open 72 = .ok (.invokevirtual 174, 3) := by decide +kernel
theorem dX11_open_75 : decode cX11_open 75 = .ok (.aload_n 0, 1) := by decide +kernel
theorem dX11_open_76 : decode cX11_open 76 = .ok (.getfield 77, 3) := by decide +kernel
theorem dX11_open_79 : decode cX11_open 79 = .ok (.invokevirtual 177, 3) := by decide +kernel
theorem dX11_open_82 : decode cX11_open 82 = .ok (.aload_n 0, 1) := by decide +kernel
theorem dX11_open_83 : decode cX11_open 83 = .ok (.getfield 33, 3) := by decide +kernel
theorem dX11_open_86 : decode cX11_open 86 = .ok (.getfield 127, 3) := by decide +kernel
theorem dX11_open_89 : decode cX11_open 89 = .ok (.aload_n 0, 1) := by decide +kernel
theorem dX11_open_90 : decode cX11_open 90 = .ok (.getfield 21, 3) := by decide +kernel
theorem dX11_open_93 : decode cX11_open 93 = .ok (.invokevirtual 164, 3) := by decide +kernel
theorem dX11_open_96 : decode cX11_open 96 = .ok (.aload_n 0, 1) := by decide +kernel
theorem dX11_open_97 : decode cX11_open 97 = .ok (.getfield 81, 3) := by decide +kernel
theorem dX11_open_100 : decode cX11_open 100 = .ok (.invokevirtual 168, 3) := by decide +kernel
theorem dX11_open_103 : decode cX11_open 103 = .ok (.aload_n 0, 1) := by decide +kernel
theorem dX11_open_104 : decode cX11_open 104 = .ok (.getfield 81, 3) := by decide +kernel
theorem dX11_open_107 : decode cX11_open 107 = .ok (.invokevirtual 180, 3) := by decide +kernel
theorem dX11_open_110 : decode cX11_open 110 = .ok (.aload_n 0, 1) := by decide +kernel
theorem dX11_open_111 : decode cX11_open 111 = .ok (.getfield 81, 3) := by decide +kernel
theorem dX11_open_114 : decode cX11_open 114 = .ok (.invokevirtual 183, 3) := by decide +kernel
theorem dX11_open_117 : decode cX11_open 117 = .ok (.aload_n 0, 1) := by decide +kernel
theorem dX11_open_118 : decode cX11_open 118 = .ok (.getfield 77, 3) := by decide +kernel
theorem dX11_open_121 : decode cX11_open 121 = .ok (.aload_n 0, 1) := by decide +kernel
theorem dX11_open_122 : decode cX11_open 122 = .ok (.getfield 81, 3) := by decide +kernel
theorem dX11_open_125 : decode cX11_open 125 = .ok (.invokevirtual 186, 3) := by decide +kernel
theorem dX11_open_128 : decode cX11_open 128 = .ok (.ifCond .ne 7, 3) := by decide +kernel
theorem dX11_open_131 : decode cX11_open 131 = .ok (.iconst 1, 1) := by decide +kernel
theorem dX11_open_132 : decode cX11_open 132 = .ok (.goto 4, 3) := by decide +kernel
theorem dX11_open_135 : decode cX11_open 135 = .ok (.iconst 0, 1) := by decide +kernel
theorem dX11_open_136 : decode cX11_open 136 = .ok (.invokevirtual 189, 3) := by decide +kernel
theorem dX11_open_139 : decode cX11_open 139 = .ok (.aload_n 0, 1) := by decide +kernel
theorem dX11_open_140 : decode cX11_open 140 = .ok (.getfield 77, 3) := by decide +kernel
theorem dX11_open_143 : decode cX11_open 143 = .ok (.invokevirtual 180, 3) := by decide +kernel
theorem dX11_open_146 : decode cX11_open 146 = .ok (.aload_n 0, 1) := by decide +kernel
theorem dX11_open_147 : decode cX11_open 147 = .ok (.getfield 77, 3) := by decide +kernel
theorem dX11_open_150 : decode cX11_open 150 = .ok (.invokevirtual 183, 3) := by decide +kernel
theorem dX11_open_153 : decode cX11_open 153 = .ok (.aload_n 0, 1) := by decide +kernel
theorem dX11_open_154 : decode cX11_open 154 = .ok (.getfield 77, 3) := by decide +kernel
theorem dX11_open_157 : decode cX11_open 157 = .ok (.invokevirtual 186, 3) := by decide +kernel
theorem dX11_open_160 : decode cX11_open 160 = .ok (.ifCond .eq 14, 3) := by decide +kernel
theorem dX11_open_163 : decode cX11_open 163 = .ok (.bipush (-10), 2) := by decide +kernel
theorem dX11_open_165 : decode cX11_open 165 = .ok (.aload_n 0, 1) := by decide +kernel
theorem dX11_open_166 : decode cX11_open 166 = .ok (.getfield 77, 3) := by decide +kernel
theorem dX11_open_169 : decode cX11_open 169 = .ok (.invokevirtual 186, 3) := by decide +kernel
theorem dX11_open_172 : decode cX11_open 172 = .ok (.isub, 1) := by decide +kernel
theorem dX11_open_173 : decode cX11_open 173 = .ok (.ireturn, 1) := by decide +kernel
theorem dX11_open_174 : decode cX11_open 174 = .ok (.aload_n 0, 1) := by decide +kernel
theorem dX11_open_175 : decode cX11_open 175 = .ok (.invokevirtual 161, 3) := by decide +kernel
theorem dX11_open_178 : decode cX11_open 178 = .ok (.aload_n 0, 1) := by decide +kernel
theorem dX11_open_179 : decode cX11_open 179 = .ok (.getfield 18, 3) := by decide +kernel
theorem dX11_open_182 : decode cX11_open 182 = .ok (.invokevirtual 95, 3) := by decide +kernel
theorem dX11_open_185 : decode cX11_open 185 = .ok (.ireturn, 1) := by decide +kernel
theorem dX7_faultPlace_0 : decode cX7_faultPlace 0 = .ok (.aload_n 0, 1) := by decide +kernel
theorem dX7_faultPlace_1 : decode cX7_faultPlace 1 = .ok (.getfield 53, 3) := by decide +kernel
theorem dX7_faultPlace_4 : decode cX7_faultPlace 4 = .ok (.ireturn, 1) := by decide +kernel
theorem dX11_place_0 : decode cX11_place 0 = .ok (.aload_n 0, 1) := by decide +kernel
theorem dX11_place_1 : decode cX11_place 1 = .ok (.getfield 77, 3) := by decide +kernel
theorem dX11_place_4 : decode cX11_place 4 = .ok (.invokevirtual 193, 3) := by decide +kernel
theorem dX11_place_7 : decode cX11_place 7 = .ok (.ireturn, 1) := by decide +kernel
theorem dX4_countOf_0 : decode cX4_countOf 0 = .ok (.iload_n 1, 1) := by decide +kernel
theorem dX4_countOf_1 : decode cX4_countOf 1 = .ok (.ifCond .lt 18, 3) := by decide +kernel
theorem dX4_countOf_4 : decode cX4_countOf 4 = .ok (.iload_n 1, 1) := by decide +kernel
theorem dX4_countOf_5 : decode cX4_countOf 5 = .ok (.bipush 8, 2) := by decide +kernel
theorem dX4_countOf_7 : decode cX4_countOf 7 = .ok (.if_icmp .ge 12, 3) := by decide +kernel
theorem dX4_countOf_10 : decode cX4_countOf 10 = .ok (.aload_n 0, 1) := by decide +kernel
theorem dX4_countOf_11 : decode cX4_countOf 11 = .ok (.getfield 9, 3) := by decide +kernel
theorem dX4_countOf_14 : decode cX4_countOf 14 = .ok (.iload_n 1, 1) := by decide +kernel
theorem dX4_countOf_15 : decode cX4_countOf 15 = .ok (.iaload, 1) := by decide +kernel
theorem dX4_countOf_16 : decode cX4_countOf 16 = .ok (.goto 4, 3) := by decide +kernel
theorem dX4_countOf_19 : decode cX4_countOf 19 = .ok (.iconst 0, 1) := by decide +kernel
theorem dX4_countOf_20 : decode cX4_countOf 20 = .ok (.ireturn, 1) := by decide +kernel
theorem dX11_told_0 : decode cX11_told 0 = .ok (.iload_n 1, 1) := by decide +kernel
theorem dX11_told_1 : decode cX11_told 1 = .ok (.bipush 8, 2) := by decide +kernel
theorem dX11_told_3 : decode cX11_told 3 = .ok (.if_icmp .ne 11, 3) := by decide +kernel
theorem dX11_told_6 : decode cX11_told 6 = .ok (.aload_n 0, 1) := by decide +kernel
theorem dX11_told_7 : decode cX11_told 7 = .ok (.getfield 40, 3) := by decide +kernel
theorem dX11_told_10 : decode cX11_told 10 = .ok (.getfield 196, 3) := by decide +kernel
theorem dX11_told_13 : decode cX11_told 13 = .ok (.ireturn, 1) := by decide +kernel
theorem dX11_told_14 : decode cX11_told 14 = .ok (.iload_n 1, 1) := by decide +kernel
theorem dX11_told_15 : decode cX11_told 15 = .ok (.bipush 9, 2) := by decide +kernel
theorem dX11_told_17 : decode cX11_told 17 = .ok (.if_icmp .ne 11, 3) := by decide +kernel
theorem dX11_told_20 : decode cX11_told 20 = .ok (.aload_n 0, 1) := by decide +kernel
theorem dX11_told_21 : decode cX11_told 21 = .ok (.getfield 40, 3) := by decide +kernel
theorem dX11_told_24 : decode cX11_told 24 = .ok (.getfield 200, 3) := by decide +kernel
theorem dX11_told_27 : decode cX11_told 27 = .ok (.ireturn, 1) := by decide +kernel
theorem dX11_told_28 : decode cX11_told 28 = .ok (.iload_n 1, 1) := by decide +kernel
theorem dX11_told_29 : decode cX11_told 29 = .ok (.ifCond .lt 9, 3) := by decide +kernel
theorem dX11_told_32 : decode cX11_told 32 = .ok (.iload_n 1, 1) := by decide +kernel
theorem dX11_told_33 : decode cX11_told 33 = .ok (.bipush 8, 2) := by decide +kernel
theorem dX11_told_35 : decode cX11_told 35 = .ok (.if_icmp .lt 8, 3) := by decide +kernel
theorem dX11_told_38 : decode cX11_told 38 = .ok (.bipush (-2), 2) := by decide +kernel
theorem dX11_told_40 : decode cX11_told 40 = .ok (.goto 11, 3) := by decide +kernel
theorem dX11_told_43 : decode cX11_told 43 = .ok (.aload_n 0, 1) := by decide +kernel
theorem dX11_told_44 : decode cX11_told 44 = .ok (.getfield 46, 3) := by decide +kernel
theorem dX11_told_47 : decode cX11_told 47 = .ok (.iload_n 1, 1) := by decide +kernel
theorem dX11_told_48 : decode cX11_told 48 = .ok (.invokevirtual 203, 3) := by decide +kernel
theorem dX11_told_51 : decode cX11_told 51 = .ok (.ireturn, 1) := by decide +kernel
theorem dX4_length_0 : decode cX4_length 0 = .ok (.aload_n 0, 1) := by decide +kernel
theorem dX4_length_1 : decode cX4_length 1 = .ok (.getfield 30, 3) := by decide +kernel
theorem dX4_length_4 : decode cX4_length 4 = .ok (.ireturn, 1) := by decide +kernel
theorem dX4_detail_0 : decode cX4_detail 0 = .ok (.iload_n 1, 1) := by decide +kernel
theorem dX4_detail_1 : decode cX4_detail 1 = .ok (.iconst 4, 1) := by decide +kernel
theorem dX4_detail_2 : decode cX4_detail 2 = .ok (.imul, 1) := by decide +kernel
theorem dX4_detail_3 : decode cX4_detail 3 = .ok (.iload_n 2, 1) := by decide +kernel
theorem dX4_detail_4 : decode cX4_detail 4 = .ok (.iadd, 1) := by decide +kernel
theorem dX4_detail_5 : decode cX4_detail 5 = .ok (.istore_n 3, 1) := by decide +kernel
theorem dX4_detail_6 : decode cX4_detail 6 = .ok (.iload_n 3, 1) := by decide +kernel
theorem dX4_detail_7 : decode cX4_detail 7 = .ok (.ifCond .lt 21, 3) := by decide +kernel
theorem dX4_detail_10 : decode cX4_detail 10 = .ok (.iload_n 3, 1) := by decide +kernel
theorem dX4_detail_11 : decode cX4_detail 11 = .ok (.aload_n 0, 1) := by decide +kernel
theorem dX4_detail_12 : decode cX4_detail 12 = .ok (.getfield 21, 3) := by decide +kernel
theorem dX4_detail_15 : decode cX4_detail 15 = .ok (.arraylength, 1) := by decide +kernel
theorem dX4_detail_16 : decode cX4_detail 16 = .ok (.if_icmp .ge 12, 3) := by decide +kernel
theorem dX4_detail_19 : decode cX4_detail 19 = .ok (.aload_n 0, 1) := by decide +kernel
theorem dX4_detail_20 : decode cX4_detail 20 = .ok (.getfield 21, 3) := by decide +kernel
theorem dX4_detail_23 : decode cX4_detail 23 = .ok (.iload_n 3, 1) := by decide +kernel
theorem dX4_detail_24 : decode cX4_detail 24 = .ok (.iaload, 1) := by decide +kernel
theorem dX4_detail_25 : decode cX4_detail 25 = .ok (.goto 4, 3) := by decide +kernel
theorem dX4_detail_28 : decode cX4_detail 28 = .ok (.iconst 0, 1) := by decide +kernel
theorem dX4_detail_29 : decode cX4_detail 29 = .ok (.ireturn, 1) := by decide +kernel
theorem dX11_instruction_0 : decode cX11_instruction 0 = .ok (.iload_n 1, 1) := by decide +kernel
theorem dX11_instruction_1 : decode cX11_instruction 1 = .ok (.ifCond .lt 23, 3) := by decide +kernel
theorem dX11_instruction_4 : decode cX11_instruction 4 = .ok (.iload_n 1, 1) := by decide +kernel
theorem dX11_instruction_5 : decode cX11_instruction 5 = .ok (.aload_n 0, 1) := by decide +kernel
theorem dX11_instruction_6 : decode cX11_instruction 6 = .ok (.getfield 46, 3) := by decide +kernel
theorem dX11_instruction_9 : decode cX11_instruction 9 = .ok (.invokevirtual 206, 3) := by decide +kernel
theorem dX11_instruction_12 : decode cX11_instruction 12 = .ok (.if_icmp .ge 12, 3) := by decide +kernel
theorem dX11_instruction_15 : decode cX11_instruction 15 = .ok (.iload_n 2, 1) := by decide +kernel
theorem dX11_instruction_16 : decode cX11_instruction 16 = .ok (.ifCond .lt 8, 3) := by decide +kernel
theorem dX11_instruction_19 : decode cX11_instruction 19 = .ok (.iload_n 2, 1) := by decide +kernel
theorem dX11_instruction_20 : decode cX11_instruction 20 = .ok (.iconst 4, 1) := by decide +kernel
theorem dX11_instruction_21 : decode cX11_instruction 21 = .ok (.if_icmp .lt 6, 3) := by decide +kernel
theorem dX11_instruction_24 : decode cX11_instruction 24 = .ok (.bipush (-2), 2) := by decide +kernel
theorem dX11_instruction_26 : decode cX11_instruction 26 = .ok (.ireturn, 1) := by decide +kernel
theorem dX11_instruction_27 : decode cX11_instruction 27 = .ok (.aload_n 0, 1) := by decide +kernel
theorem dX11_instruction_28 : decode cX11_instruction 28 = .ok (.getfield 46, 3) := by decide +kernel
theorem dX11_instruction_31 : decode cX11_instruction 31 = .ok (.iload_n 1, 1) := by decide +kernel
theorem dX11_instruction_32 : decode cX11_instruction 32 = .ok (.iload_n 2, 1) := by decide +kernel
theorem dX11_instruction_33 : decode cX11_instruction 33 = .ok (.invokevirtual 207, 3) := by decide +kernel
theorem dX11_instruction_36 : decode cX11_instruction 36 = .ok (.ireturn, 1) := by decide +kernel
theorem dX11_table_0 : decode cX11_table 0 = .ok (.iload_n 1, 1) := by decide +kernel
theorem dX11_table_1 : decode cX11_table 1 = .ok (.iload_n 2, 1) := by decide +kernel
theorem dX11_table_2 : decode cX11_table 2 = .ok (.invokestatic 133, 3) := by decide +kernel
theorem dX11_table_5 : decode cX11_table 5 = .ok (.ifCond .eq 15, 3) := by decide +kernel
theorem dX11_table_8 : decode cX11_table 8 = .ok (.aload_n 0, 1) := by decide +kernel
theorem dX11_table_9 : decode cX11_table 9 = .ok (.getfield 40, 3) := by decide +kernel
theorem dX11_table_12 : decode cX11_table 12 = .ok (.iload_n 1, 1) := by decide +kernel
theorem dX11_table_13 : decode cX11_table 13 = .ok (.iload_n 2, 1) := by decide +kernel
theorem dX11_table_14 : decode cX11_table 14 = .ok (.invokevirtual 137, 3) := by decide +kernel
theorem dX11_table_17 : decode cX11_table 17 = .ok (.goto 5, 3) := by decide +kernel
theorem dX11_table_20 : decode cX11_table 20 = .ok (.bipush (-2), 2) := by decide +kernel
theorem dX11_table_22 : decode cX11_table 22 = .ok (.ireturn, 1) := by decide +kernel
theorem dX11_cache_0 : decode cX11_cache 0 = .ok (.iload_n 1, 1) := by decide +kernel
theorem dX11_cache_1 : decode cX11_cache 1 = .ok (.ifCond .ne 27, 3) := by decide +kernel
theorem dX11_cache_4 : decode cX11_cache 4 = .ok (.iload_n 2, 1) := by decide +kernel
theorem dX11_cache_5 : decode cX11_cache 5 = .ok (.ifCond .lt 23, 3) := by decide +kernel
theorem dX11_cache_8 : decode cX11_cache 8 = .ok (.iload_n 2, 1) := by decide +kernel
theorem dX11_cache_9 : decode cX11_cache 9 = .ok (.aload_n 0, 1) := by decide +kernel
theorem dX11_cache_10 : decode cX11_cache 10 = .ok (.getfield 55, 3) := by decide +kernel
theorem dX11_cache_13 : decode cX11_cache 13 = .ok (.getfield 210, 3) := by decide +kernel
theorem dX11_cache_16 : decode cX11_cache 16 = .ok (.if_icmp .ge 12, 3) := by decide +kernel
theorem dX11_cache_19 : decode cX11_cache 19 = .ok (.aload_n 0, 1) := by decide +kernel
theorem dX11_cache_20 : decode cX11_cache 20 = .ok (.getfield 55, 3) := by decide +kernel
theorem dX11_cache_23 : decode cX11_cache 23 = .ok (.iload_n 2, 1) := by decide +kernel
theorem dX11_cache_24 : decode cX11_cache 24 = .ok (.invokevirtual 213, 3) := by decide +kernel
theorem dX11_cache_27 : decode cX11_cache 27 = .ok (.ireturn, 1) := by decide +kernel
theorem dX11_cache_28 : decode cX11_cache 28 = .ok (.iload_n 1, 1) := by decide +kernel
theorem dX11_cache_29 : decode cX11_cache 29 = .ok (.iconst 1, 1) := by decide +kernel
theorem dX11_cache_30 : decode cX11_cache 30 = .ok (.if_icmp .ne 27, 3) := by decide +kernel
theorem dX11_cache_33 : decode cX11_cache 33 = .ok (.iload_n 2, 1) := by decide +kernel
theorem dX11_cache_34 : decode cX11_cache 34 = .ok (.ifCond .lt 23, 3) := by decide +kernel
theorem dX11_cache_37 : decode cX11_cache 37 = .ok (.iload_n 2, 1) := by decide +kernel
theorem dX11_cache_38 : decode cX11_cache 38 = .ok (.aload_n 0, 1) := by decide +kernel
theorem dX11_cache_39 : decode cX11_cache 39 = .ok (.getfield 55, 3) := by decide +kernel
theorem dX11_cache_42 : decode cX11_cache 42 = .ok (.getfield 216, 3) := by decide +kernel
theorem dX11_cache_45 : decode cX11_cache 45 = .ok (.if_icmp .ge 12, 3) := by decide +kernel
theorem dX11_cache_48 : decode cX11_cache 48 = .ok (.aload_n 0, 1) := by decide +kernel
theorem dX11_cache_49 : decode cX11_cache 49 = .ok (.getfield 55, 3) := by decide +kernel
theorem dX11_cache_52 : decode cX11_cache 52 = .ok (.iload_n 2, 1) := by decide +kernel
theorem dX11_cache_53 : decode cX11_cache 53 = .ok (.invokevirtual 219, 3) := by decide +kernel
theorem dX11_cache_56 : decode cX11_cache 56 = .ok (.ireturn, 1) := by decide +kernel
theorem dX11_cache_57 : decode cX11_cache 57 = .ok (.bipush (-2), 2) := by decide +kernel
theorem dX11_cache_59 : decode cX11_cache 59 = .ok (.ireturn, 1) := by decide +kernel
theorem dX12_code_0 : decode cX12_code 0 = .ok (.aload_n 0, 1) := by decide +kernel
theorem dX12_code_1 : decode cX12_code 1 = .ok (.getfield 23, 3) := by decide +kernel
theorem dX12_code_4 : decode cX12_code 4 = .ok (.iload_n 1, 1) := by decide +kernel
theorem dX12_code_5 : decode cX12_code 5 = .ok (.iload_n 2, 1) := by decide +kernel
theorem dX12_code_6 : decode cX12_code 6 = .ok (.iastore, 1) := by decide +kernel
theorem dX12_code_7 : decode cX12_code 7 = .ok (.aload_n 0, 1) := by decide +kernel
theorem dX12_code_8 : decode cX12_code 8 = .ok (.getfield 23, 3) := by decide +kernel
theorem dX12_code_11 : decode cX12_code 11 = .ok (.sipush 256, 3) := by decide +kernel
theorem dX12_code_14 : decode cX12_code 14 = .ok (.iload_n 1, 1) := by decide +kernel
theorem dX12_code_15 : decode cX12_code 15 = .ok (.iadd, 1) := by decide +kernel
theorem dX12_code_16 : decode cX12_code 16 = .ok (.iload_n 3, 1) := by decide +kernel
theorem dX12_code_17 : decode cX12_code 17 = .ok (.iastore, 1) := by decide +kernel
theorem dX12_code_18 : decode cX12_code 18 = .ok (.aload_n 0, 1) := by decide +kernel
theorem dX12_code_19 : decode cX12_code 19 = .ok (.getfield 23, 3) := by decide +kernel
theorem dX12_code_22 : decode cX12_code 22 = .ok (.sipush 512, 3) := by decide +kernel
theorem dX12_code_25 : decode cX12_code 25 = .ok (.iload_n 1, 1) := by decide +kernel
theorem dX12_code_26 : decode cX12_code 26 = .ok (.iadd, 1) := by decide +kernel
theorem dX12_code_27 : decode cX12_code 27 = .ok (.iload 4, 2) := by decide +kernel
theorem dX12_code_29 : decode cX12_code 29 = .ok (.iastore, 1) := by decide +kernel
theorem dX12_code_30 : decode cX12_code 30 = .ok (.aload_n 0, 1) := by decide +kernel
theorem dX12_code_31 : decode cX12_code 31 = .ok (.getfield 23, 3) := by decide +kernel
theorem dX12_code_34 : decode cX12_code 34 = .ok (.sipush 768, 3) := by decide +kernel
theorem dX12_code_37 : decode cX12_code 37 = .ok (.iload_n 1, 1) := by decide +kernel
theorem dX12_code_38 : decode cX12_code 38 = .ok (.iadd, 1) := by decide +kernel
theorem dX12_code_39 : decode cX12_code 39 = .ok (.iload 5, 2) := by decide +kernel
theorem dX12_code_41 : decode cX12_code 41 = .ok (.iastore, 1) := by decide +kernel
theorem dX12_code_42 : decode cX12_code 42 = .ok (.aload_n 0, 1) := by decide +kernel
theorem dX12_code_43 : decode cX12_code 43 = .ok (.getfield 23, 3) := by decide +kernel
theorem dX12_code_46 : decode cX12_code 46 = .ok (.sipush 1024, 3) := by decide +kernel
theorem dX12_code_49 : decode cX12_code 49 = .ok (.iload_n 1, 1) := by decide +kernel
theorem dX12_code_50 : decode cX12_code 50 = .ok (.iadd, 1) := by decide +kernel
theorem dX12_code_51 : decode cX12_code 51 = .ok (.iload 6, 2) := by decide +kernel
theorem dX12_code_53 : decode cX12_code 53 = .ok (.iastore, 1) := by decide +kernel
theorem dX12_code_54 : decode cX12_code 54 = .ok (.aload_n 0, 1) := by decide +kernel
theorem dX12_code_55 : decode cX12_code 55 = .ok (.getfield 23, 3) := by decide +kernel
theorem dX12_code_58 : decode cX12_code 58 = .ok (.sipush 1280, 3) := by decide +kernel
theorem dX12_code_61 : decode cX12_code 61 = .ok (.iload_n 1, 1) := by decide +kernel
theorem dX12_code_62 : decode cX12_code 62 = .ok (.iadd, 1) := by decide +kernel
theorem dX12_code_63 : decode cX12_code 63 = .ok (.iload 7, 2) := by decide +kernel
theorem dX12_code_65 : decode cX12_code 65 = .ok (.iastore, 1) := by decide +kernel
theorem dX12_code_66 : decode cX12_code 66 = .ok (.iload_n 1, 1) := by decide +kernel
theorem dX12_code_67 : decode cX12_code 67 = .ok (.iconst 1, 1) := by decide +kernel
theorem dX12_code_68 : decode cX12_code 68 = .ok (.iadd, 1) := by decide +kernel
theorem dX12_code_69 : decode cX12_code 69 = .ok (.ireturn, 1) := by decide +kernel
theorem dX12_takeTable_0 : decode cX12_takeTable 0 = .ok (.aload_n 0, 1) := by decide +kernel
theorem dX12_takeTable_1 : decode cX12_takeTable 1 = .ok (.getfield 27, 3) := by decide +kernel
theorem dX12_takeTable_4 : decode cX12_takeTable 4 = .ok (.iload_n 2, 1) := by decide +kernel
theorem dX12_takeTable_5 : decode cX12_takeTable 5 = .ok (.aload_n 0, 1) := by decide +kernel
theorem dX12_takeTable_6 : decode cX12_takeTable 6 = .ok (.getfield 27, 3) := by decide +kernel
theorem dX12_takeTable_9 : decode cX12_takeTable 9 = .ok (.iload_n 1, 1) := by decide +kernel
theorem dX12_takeTable_10 : decode cX12_takeTable 10 = .ok (.iaload, 1) := by decide +kernel
theorem dX12_takeTable_11 : decode cX12_takeTable 11 = .ok (.iastore, 1) := by decide +kernel
theorem dX12_takeTable_12 : decode cX12_takeTable 12 = .ok (.aload_n 0, 1) := by decide +kernel
theorem dX12_takeTable_13 : decode cX12_takeTable 13 = .ok (.getfield 30, 3) := by decide +kernel
theorem dX12_takeTable_16 : decode cX12_takeTable 16 = .ok (.iload_n 2, 1) := by decide +kernel
theorem dX12_takeTable_17 : decode cX12_takeTable 17 = .ok (.aload_n 0, 1) := by decide +kernel
theorem dX12_takeTable_18 : decode cX12_takeTable 18 = .ok (.getfield 30, 3) := by decide +kernel
theorem dX12_takeTable_21 : decode cX12_takeTable 21 = .ok (.iload_n 1, 1) := by decide +kernel
theorem dX12_takeTable_22 : decode cX12_takeTable 22 = .ok (.iaload, 1) := by decide +kernel
theorem dX12_takeTable_23 : decode cX12_takeTable 23 = .ok (.iastore, 1) := by decide +kernel
theorem dX12_takeTable_24 : decode cX12_takeTable 24 = .ok (.iconst 0, 1) := by decide +kernel
theorem dX12_takeTable_25 : decode cX12_takeTable 25 = .ok (.istore_n 3, 1) := by decide +kernel
theorem dX12_takeTable_26 : decode cX12_takeTable 26 = .ok (.iload_n 3, 1) := by decide +kernel
theorem dX12_takeTable_27 : decode cX12_takeTable 27 = .ok (.sipush 1536, 3) := by decide +kernel
theorem dX12_takeTable_30 : decode cX12_takeTable 30 = .ok (.if_icmp .ge 33, 3) := by decide +kernel
theorem dX12_takeTable_33 : decode cX12_takeTable 33 = .ok (.aload_n 0, 1) := by decide +kernel
theorem dX12_takeTable_34 : decode cX12_takeTable 34 = .ok (.getfield 23, 3) := by decide +kernel
theorem dX12_takeTable_37 : decode cX12_takeTable 37 = .ok (.sipush 1536, 3) := by decide +kernel
theorem dX12_takeTable_40 : decode cX12_takeTable 40 = .ok (.iload_n 2, 1) := by decide +kernel
theorem dX12_takeTable_41 : decode cX12_takeTable 41 = .ok (.imul, 1) := by decide +kernel
theorem dX12_takeTable_42 : decode cX12_takeTable 42 = .ok (.iload_n 3, 1) := by decide +kernel
theorem dX12_takeTable_43 : decode cX12_takeTable 43 = .ok (.iadd, 1) := by decide +kernel
theorem dX12_takeTable_44 : decode cX12_takeTable 44 = .ok (.aload_n 0, 1) := by decide +kernel
theorem dX12_takeTable_45 : decode cX12_takeTable 45 = .ok (.getfield 23, 3) := by decide +kernel
theorem dX12_takeTable_48 : decode cX12_takeTable 48 = .ok (.sipush 1536, 3) := by decide +kernel
theorem dX12_takeTable_51 : decode cX12_takeTable 51 = .ok (.iload_n 1, 1) := by decide +kernel
theorem dX12_takeTable_52 : decode cX12_takeTable 52 = .ok (.imul, 1) := by decide +kernel
theorem dX12_takeTable_53 : decode cX12_takeTable 53 = .ok (.iload_n 3, 1) := by decide +kernel
theorem dX12_takeTable_54 : decode cX12_takeTable 54 = .ok (.iadd, 1) := by decide +kernel
theorem dX12_takeTable_55 : decode cX12_takeTable 55 = .ok (.iaload, 1) := by decide +kernel
theorem dX12_takeTable_56 : decode cX12_takeTable 56 = .ok (.iastore, 1) := by decide +kernel
theorem dX12_takeTable_57 : decode cX12_takeTable 57 = .ok (.iinc 3 1, 3) := by decide +kernel
theorem dX12_takeTable_60 : decode cX12_takeTable 60 = .ok (.goto (-34), 3) := by decide +kernel
theorem dX12_takeTable_63 : decode cX12_takeTable 63 = .ok (.return_, 1) := by decide +kernel
theorem dX12_rowOf_0 : decode cX12_rowOf 0 = .ok (.iload_n 0, 1) := by decide +kernel
theorem dX12_rowOf_1 : decode cX12_rowOf 1 = .ok (.iconst 2, 1) := by decide +kernel
theorem dX12_rowOf_2 : decode cX12_rowOf 2 = .ok (.irem, 1) := by decide +kernel
theorem dX12_rowOf_3 : decode cX12_rowOf 3 = .ok (.ifCond .ne 9, 3) := by decide +kernel
theorem dX12_rowOf_6 : decode cX12_rowOf 6 = .ok (.iload_n 0, 1) := by decide +kernel
theorem dX12_rowOf_7 : decode cX12_rowOf 7 = .ok (.iconst 2, 1) := by decide +kernel
theorem dX12_rowOf_8 : decode cX12_rowOf 8 = .ok (.idiv, 1) := by decide +kernel
theorem dX12_rowOf_9 : decode cX12_rowOf 9 = .ok (.goto 8, 3) := by decide +kernel
theorem dX12_rowOf_12 : decode cX12_rowOf 12 = .ok (.iconst 3, 1) := by decide +kernel
theorem dX12_rowOf_13 : decode cX12_rowOf 13 = .ok (.iload_n 0, 1) := by decide +kernel
theorem dX12_rowOf_14 : decode cX12_rowOf 14 = .ok (.iconst 2, 1) := by decide +kernel
theorem dX12_rowOf_15 : decode cX12_rowOf 15 = .ok (.idiv, 1) := by decide +kernel
theorem dX12_rowOf_16 : decode cX12_rowOf 16 = .ok (.iadd, 1) := by decide +kernel
theorem dX12_rowOf_17 : decode cX12_rowOf 17 = .ok (.ireturn, 1) := by decide +kernel
theorem dX12_entryOf_0 : decode cX12_entryOf 0 = .ok (.aload_n 0, 1) := by decide +kernel
theorem dX12_entryOf_1 : decode cX12_entryOf 1 = .ok (.getfield 23, 3) := by decide +kernel
theorem dX12_entryOf_4 : decode cX12_entryOf 4 = .ok (.sipush 1536, 3) := by decide +kernel
theorem dX12_entryOf_7 : decode cX12_entryOf 7 = .ok (.iload_n 1, 1) := by decide +kernel
theorem dX12_entryOf_8 : decode cX12_entryOf 8 = .ok (.imul, 1) := by decide +kernel
theorem dX12_entryOf_9 : decode cX12_entryOf 9 = .ok (.sipush 256, 3) := by decide +kernel
theorem dX12_entryOf_12 : decode cX12_entryOf 12 = .ok (.iload_n 3, 1) := by decide +kernel
theorem dX12_entryOf_13 : decode cX12_entryOf 13 = .ok (.imul, 1) := by decide +kernel
theorem dX12_entryOf_14 : decode cX12_entryOf 14 = .ok (.iadd, 1) := by decide +kernel
theorem dX12_entryOf_15 : decode cX12_entryOf 15 = .ok (.iload_n 2, 1) := by decide +kernel
theorem dX12_entryOf_16 : decode cX12_entryOf 16 = .ok (.iadd, 1) := by decide +kernel
theorem dX12_entryOf_17 : decode cX12_entryOf 17 = .ok (.iaload, 1) := by decide +kernel
theorem dX12_entryOf_18 : decode cX12_entryOf 18 = .ok (.ireturn, 1) := by decide +kernel
theorem dX12_asBytes_0 : decode cX12_asBytes 0 = .ok (.iconst 0, 1) := by decide +kernel
theorem dX12_asBytes_1 : decode cX12_asBytes 1 = .ok (.istore_n 3, 1) := by decide +kernel
theorem dX12_asBytes_2 : decode cX12_asBytes 2 = .ok (.iload_n 3, 1) := by decide +kernel
theorem dX12_asBytes_3 : decode cX12_asBytes 3 = .ok (.bipush 6, 2) := by decide +kernel
theorem dX12_asBytes_5 : decode cX12_asBytes 5 = .ok (.if_icmp .ge 48, 3) := by decide +kernel
theorem dX12_asBytes_8 : decode cX12_asBytes 8 = .ok (.iconst 0, 1) := by decide +kernel
theorem dX12_asBytes_9 : decode cX12_asBytes 9 = .ok (.istore 4, 2) := by decide +kernel
theorem dX12_asBytes_11 : decode cX12_asBytes 11 = .ok (.iload 4, 2) := by decide +kernel
theorem dX12_asBytes_13 : decode cX12_asBytes 13 = .ok (.sipush 256, 3) := by decide +kernel
theorem dX12_asBytes_16 : decode cX12_asBytes 16 = .ok (.if_icmp .ge 31, 3) := by decide +kernel
theorem dX12_asBytes_19 : decode cX12_asBytes 19 = .ok (.aload_n 2, 1) := by decide +kernel
theorem dX12_asBytes_20 : decode cX12_asBytes 20 = .ok (.sipush 256, 3) := by decide +kernel
theorem dX12_asBytes_23 : decode cX12_asBytes 23 = .ok (.iload_n 3, 1) := by decide +kernel
theorem dX12_asBytes_24 : decode cX12_asBytes 24 = .ok (.imul, 1) := by decide +kernel
theorem dX12_asBytes_25 : decode cX12_asBytes 25 = .ok (.iload 4, 2) := by decide +kernel
theorem dX12_asBytes_27 : decode cX12_asBytes 27 = .ok (.iadd, 1) := by decide +kernel
theorem dX12_asBytes_28 : decode cX12_asBytes 28 = .ok (.aload_n 0, 1) := by decide +kernel
theorem dX12_asBytes_29 : decode cX12_asBytes 29 = .ok (.iload_n 1, 1) := by decide +kernel
theorem dX12_asBytes_30 : decode cX12_asBytes 30 = .ok (.iload 4, 2) := by decide +kernel
theorem dX12_asBytes_32 : decode cX12_asBytes 32 = .ok (.iload_n 3, 1) := by decide +kernel
theorem dX12_asBytes_33 : decode cX12_asBytes 33 = .ok (.invokestatic 122, 3) := by decide +kernel
theorem dX12_asBytes_36 : decode cX12_asBytes 36 = .ok (.invokevirtual 126, 3) := by decide +kernel
theorem dX12_asBytes_39 : decode cX12_asBytes 39 = .ok (.i2b, 1) := by decide +kernel
theorem dX12_asBytes_40 : decode cX12_asBytes 40 = .ok (.bastore, 1) := by decide +kernel
theorem dX12_asBytes_41 : decode cX12_asBytes 41 = .ok (.iinc 4 1, 3) := by decide +kernel
theorem dX12_asBytes_44 : decode cX12_asBytes 44 = .ok (.goto (-33), 3) := by decide +kernel
theorem dX12_asBytes_47 : decode cX12_asBytes 47 = .ok (.iinc 3 1, 3) := by decide +kernel
theorem dX12_asBytes_50 : decode cX12_asBytes 50 = .ok (.goto (-48), 3) := by decide +kernel
theorem dX12_asBytes_53 : decode cX12_asBytes 53 = .ok (.return_, 1) := by decide +kernel
theorem dX12_isGood_0 : decode cX12_isGood 0 = .ok (.iconst 0, 1) := by decide +kernel
theorem dX12_isGood_1 : decode cX12_isGood 1 = .ok (.istore_n 2, 1) := by decide +kernel
theorem dX12_isGood_2 : decode cX12_isGood 2 = .ok (.iload_n 2, 1) := by decide +kernel
theorem dX12_isGood_3 : decode cX12_isGood 3 = .ok (.sipush 256, 3) := by decide +kernel
theorem dX12_isGood_6 : decode cX12_isGood 6 = .ok (.if_icmp .ge 136, 3) := by decide +kernel
theorem dX12_isGood_9 : decode cX12_isGood 9 = .ok (.iconst 0, 1) := by decide +kernel
theorem dX12_isGood_10 : decode cX12_isGood 10 = .ok (.istore_n 3, 1) := by decide +kernel
theorem dX12_isGood_11 : decode cX12_isGood 11 = .ok (.iload_n 3, 1) := by decide +kernel
theorem dX12_isGood_12 : decode cX12_isGood 12 = .ok (.bipush 6, 2) := by decide +kernel
theorem dX12_isGood_14 : decode cX12_isGood 14 = .ok (.if_icmp .ge 122, 3) := by decide +kernel
theorem dX12_isGood_17 : decode cX12_isGood 17 = .ok (.aload_n 0, 1) := by decide +kernel
theorem dX12_isGood_18 : decode cX12_isGood 18 = .ok (.iload_n 1, 1) := by decide +kernel
theorem dX12_isGood_19 : decode cX12_isGood 19 = .ok (.iload_n 2, 1) := by decide +kernel
theorem dX12_isGood_20 : decode cX12_isGood 20 = .ok (.iload_n 3, 1) := by decide +kernel
theorem dX12_isGood_21 : decode cX12_isGood 21 = .ok (.invokevirtual 126, 3) := by decide +kernel
theorem dX12_isGood_24 : decode cX12_isGood 24 = .ok (.istore 4, 2) := by decide +kernel
theorem dX12_isGood_26 : decode cX12_isGood 26 = .ok (.aload_n 0, 1) := by decide +kernel
theorem dX12_isGood_27 : decode cX12_isGood 27 = .ok (.iload_n 1, 1) := by decide +kernel
theorem dX12_isGood_28 : decode cX12_isGood 28 = .ok (.iload_n 2, 1) := by decide +kernel
theorem dX12_isGood_29 : decode cX12_isGood 29 = .ok (.iload_n 3, 1) := by decide +kernel
theorem dX12_isGood_30 : decode cX12_isGood 30 = .ok (.iconst 1, 1) := by decide +kernel
theorem dX12_isGood_31 : decode cX12_isGood 31 = .ok (.iadd, 1) := by decide +kernel
theorem dX12_isGood_32 : decode cX12_isGood 32 = .ok (.invokevirtual 126, 3) := by decide +kernel
theorem dX12_isGood_35 : decode cX12_isGood 35 = .ok (.istore 5, 2) := by decide +kernel
theorem dX12_isGood_37 : decode cX12_isGood 37 = .ok (.aload_n 0, 1) := by decide +kernel
theorem dX12_isGood_38 : decode cX12_isGood 38 = .ok (.iload_n 1, 1) := by decide +kernel
theorem dX12_isGood_39 : decode cX12_isGood 39 = .ok (.iload_n 2, 1) := by decide +kernel
theorem dX12_isGood_40 : decode cX12_isGood 40 = .ok (.iload_n 3, 1) := by decide +kernel
theorem dX12_isGood_41 : decode cX12_isGood 41 = .ok (.iconst 2, 1) := by decide +kernel
theorem dX12_isGood_42 : decode cX12_isGood 42 = .ok (.iadd, 1) := by decide +kernel
theorem dX12_isGood_43 : decode cX12_isGood 43 = .ok (.invokevirtual 126, 3) := by decide +kernel
theorem dX12_isGood_46 : decode cX12_isGood 46 = .ok (.istore 6, 2) := by decide +kernel
theorem dX12_isGood_48 : decode cX12_isGood 48 = .ok (.iload 4, 2) := by decide +kernel
theorem dX12_isGood_50 : decode cX12_isGood 50 = .ok (.ifCond .ne 21, 3) := by decide +kernel
theorem dX12_isGood_53 : decode cX12_isGood 53 = .ok (.iload 5, 2) := by decide +kernel
theorem dX12_isGood_55 : decode cX12_isGood 55 = .ok (.ifCond .ne 12, 3) := by decide +kernel
theorem dX12_isGood_58 : decode cX12_isGood 58 = .ok (.iload 6, 2) := by decide +kernel
theorem dX12_isGood_60 : decode cX12_isGood 60 = .ok (.ifCond .ne 7, 3) := by decide +kernel
theorem dX12_isGood_63 : decode cX12_isGood 63 = .ok (.iconst 1, 1) := by decide +kernel
theorem dX12_isGood_64 : decode cX12_isGood 64 = .ok (.goto 57, 3) := by decide +kernel
theorem dX12_isGood_67 : decode cX12_isGood 67 = .ok (.iconst 0, 1) := by decide +kernel
theorem dX12_isGood_68 : decode cX12_isGood 68 = .ok (.goto 53, 3) := by decide +kernel
theorem dX12_isGood_71 : decode cX12_isGood 71 = .ok (.iload 4, 2) := by decide +kernel
theorem dX12_isGood_73 : decode cX12_isGood 73 = .ok (.iconst 3, 1) := by decide +kernel
theorem dX12_isGood_74 : decode cX12_isGood 74 = .ok (.if_icmp .ne 31, 3) := by decide +kernel
theorem dX12_isGood_77 : decode cX12_isGood 77 = .ok (.iload 6, 2) := by decide +kernel
theorem dX12_isGood_79 : decode cX12_isGood 79 = .ok (.iconst 2, 1) := by decide +kernel
theorem dX12_isGood_80 : decode cX12_isGood 80 = .ok (.aload_n 0, 1) := by decide +kernel
theorem dX12_isGood_81 : decode cX12_isGood 81 = .ok (.getfield 27, 3) := by decide +kernel
theorem dX12_isGood_84 : decode cX12_isGood 84 = .ok (.iload_n 1, 1) := by decide +kernel
theorem dX12_isGood_85 : decode cX12_isGood 85 = .ok (.iaload, 1) := by decide +kernel
theorem dX12_isGood_86 : decode cX12_isGood 86 = .ok (.iadd, 1) := by decide +kernel
theorem dX12_isGood_87 : decode cX12_isGood 87 = .ok (.aload_n 0, 1) := by decide +kernel
theorem dX12_isGood_88 : decode cX12_isGood 88 = .ok (.getfield 30, 3) := by decide +kernel
theorem dX12_isGood_91 : decode cX12_isGood 91 = .ok (.iload_n 1, 1) := by decide +kernel
theorem dX12_isGood_92 : decode cX12_isGood 92 = .ok (.iaload, 1) := by decide +kernel
theorem dX12_isGood_93 : decode cX12_isGood 93 = .ok (.iadd, 1) := by decide +kernel
theorem dX12_isGood_94 : decode cX12_isGood 94 = .ok (.if_icmp .ge 7, 3) := by decide +kernel
theorem dX12_isGood_97 : decode cX12_isGood 97 = .ok (.iconst 1, 1) := by decide +kernel
theorem dX12_isGood_98 : decode cX12_isGood 98 = .ok (.goto 23, 3) := by decide +kernel
theorem dX12_isGood_101 : decode cX12_isGood 101 = .ok (.iconst 0, 1) := by decide +kernel
theorem dX12_isGood_102 : decode cX12_isGood 102 = .ok (.goto 19, 3) := by decide +kernel
theorem dX12_isGood_105 : decode cX12_isGood 105 = .ok (.iload 4, 2) := by decide +kernel
theorem dX12_isGood_107 : decode cX12_isGood 107 = .ok (.iconst 3, 1) := by decide +kernel
theorem dX12_isGood_108 : decode cX12_isGood 108 = .ok (.if_icmp .ge 12, 3) := by decide +kernel
theorem dX12_isGood_111 : decode cX12_isGood 111 = .ok (.iload 6, 2) := by decide +kernel
theorem dX12_isGood_113 : decode cX12_isGood 113 = .ok (.ifCond .ne 7, 3) := by decide +kernel
theorem dX12_isGood_116 : decode cX12_isGood 116 = .ok (.iconst 1, 1) := by decide +kernel
theorem dX12_isGood_117 : decode cX12_isGood 117 = .ok (.goto 4, 3) := by decide +kernel
theorem dX12_isGood_120 : decode cX12_isGood 120 = .ok (.iconst 0, 1) := by decide +kernel
theorem dX12_isGood_121 : decode cX12_isGood 121 = .ok (.istore 7, 2) := by decide +kernel
theorem dX12_isGood_123 : decode cX12_isGood 123 = .ok (.iload 7, 2) := by decide +kernel
theorem dX12_isGood_125 : decode cX12_isGood 125 = .ok (.ifCond .ne 5, 3) := by decide +kernel
theorem dX12_isGood_128 : decode cX12_isGood 128 = .ok (.iconst 0, 1) := by decide +kernel
theorem dX12_isGood_129 : decode cX12_isGood 129 = .ok (.ireturn, 1) := by decide +kernel
theorem dX12_isGood_130 : decode cX12_isGood 130 = .ok (.iinc 3 3, 3) := by decide +kernel
theorem dX12_isGood_133 : decode cX12_isGood 133 = .ok (.goto (-122), 3) := by decide +kernel
theorem dX12_isGood_136 : decode cX12_isGood 136 = .ok (.iinc 2 1, 3) := by decide +kernel
theorem dX12_isGood_139 : decode cX12_isGood 139 = .ok (.goto (-137), 3) := by decide +kernel
theorem dX12_isGood_142 : decode cX12_isGood 142 = .ok (.iconst 1, 1) := by decide +kernel
theorem dX12_isGood_143 : decode cX12_isGood 143 = .ok (.ireturn, 1) := by decide +kernel
theorem dX12_feed_0 : decode cX12_feed 0 = .ok (.iload_n 3, 1) := by decide +kernel
theorem dX12_feed_1 : decode cX12_feed 1 = .ok (.ifCond .lt 9, 3) := by decide +kernel
theorem dX12_feed_4 : decode cX12_feed 4 = .ok (.iload_n 3, 1) := by decide +kernel
theorem dX12_feed_5 : decode cX12_feed 5 = .ok (.bipush 8, 2) := by decide +kernel
theorem dX12_feed_7 : decode cX12_feed 7 = .ok (.if_icmp .le 6, 3) := by decide +kernel
theorem dX12_feed_10 : decode cX12_feed 10 = .ok (.bipush (-2), 2) := by decide +kernel
theorem dX12_feed_12 : decode cX12_feed 12 = .ok (.ireturn, 1) := by decide +kernel
theorem dX12_feed_13 : decode cX12_feed 13 = .ok (.iload_n 3, 1) := by decide +kernel
theorem dX12_feed_14 : decode cX12_feed 14 = .ok (.ifCond .ne 10, 3) := by decide +kernel
theorem dX12_feed_17 : decode cX12_feed 17 = .ok (.aload_n 0, 1) := by decide +kernel
theorem dX12_feed_18 : decode cX12_feed 18 = .ok (.iconst 0, 1) := by decide +kernel
theorem dX12_feed_19 : decode cX12_feed 19 = .ok (.putfield 130, 3) := by decide +kernel
theorem dX12_feed_22 : decode cX12_feed 22 = .ok (.iconst 0, 1) := by decide +kernel
theorem dX12_feed_23 : decode cX12_feed 23 = .ok (.ireturn, 1) := by decide +kernel
theorem dX12_feed_24 : decode cX12_feed 24 = .ok (.aload_n 0, 1) := by decide +kernel
theorem dX12_feed_25 : decode cX12_feed 25 = .ok (.getfield 130, 3) := by decide +kernel
theorem dX12_feed_28 : decode cX12_feed 28 = .ok (.iload_n 3, 1) := by decide +kernel
theorem dX12_feed_29 : decode cX12_feed 29 = .ok (.iadd, 1) := by decide +kernel
theorem dX12_feed_30 : decode cX12_feed 30 = .ok (.sipush 8000, 3) := by decide +kernel
theorem dX12_feed_33 : decode cX12_feed 33 = .ok (.if_icmp .le 6, 3) := by decide +kernel
theorem dX12_feed_36 : decode cX12_feed 36 = .ok (.bipush (-4), 2) := by decide +kernel
theorem dX12_feed_38 : decode cX12_feed 38 = .ok (.ireturn, 1) := by decide +kernel
theorem dX12_feed_39 : decode cX12_feed 39 = .ok (.iload_n 3, 1) := by decide +kernel
theorem dX12_feed_40 : decode cX12_feed 40 = .ok (.iconst 1, 1) := by decide +kernel
theorem dX12_feed_41 : decode cX12_feed 41 = .ok (.isub, 1) := by decide +kernel
theorem dX12_feed_42 : decode cX12_feed 42 = .ok (.istore 4, 2) := by decide +kernel
theorem dX12_feed_44 : decode cX12_feed 44 = .ok (.iload 4, 2) := by decide +kernel
theorem dX12_feed_46 : decode cX12_feed 46 = .ok (.ifCond .lt 37, 3) := by decide +kernel
theorem dX12_feed_49 : decode cX12_feed 49 = .ok (.aload_n 0, 1) := by decide +kernel
theorem dX12_feed_50 : decode cX12_feed 50 = .ok (.getfield 7, 3) := by decide +kernel
theorem dX12_feed_53 : decode cX12_feed 53 = .ok (.aload_n 0, 1) := by decide +kernel
theorem dX12_feed_54 : decode cX12_feed 54 = .ok (.getfield 130, 3) := by decide +kernel
theorem dX12_feed_57 : decode cX12_feed 57 = .ok (.lload_n 1, 1) := by decide +kernel
theorem dX12_feed_58 : decode cX12_feed 58 = .ok (.bipush 8, 2) := by decide +kernel
theorem dX12_feed_60 : decode cX12_feed 60 = .ok (.iload 4, 2) := by decide +kernel
theorem dX12_feed_62 : decode cX12_feed 62 = .ok (.imul, 1) := by decide +kernel
theorem dX12_feed_63 : decode cX12_feed 63 = .ok (.lshr, 1) := by decide +kernel
theorem dX12_feed_64 : decode cX12_feed 64 = .ok (.l2i, 1) := by decide +kernel
theorem dX12_feed_65 : decode cX12_feed 65 = .ok (.i2b, 1) := by decide +kernel
theorem dX12_feed_66 : decode cX12_feed 66 = .ok (.bastore, 1) := by decide +kernel
theorem dX12_feed_67 : decode cX12_feed 67 = .ok (.aload_n 0, 1) := by decide +kernel
theorem dX12_feed_68 : decode cX12_feed 68 = .ok (.dup, 1) := by decide +kernel
theorem dX12_feed_69 : decode cX12_feed 69 = .ok (.getfield 130, 3) := by decide +kernel
theorem dX12_feed_72 : decode cX12_feed 72 = .ok (.iconst 1, 1) := by decide +kernel
theorem dX12_feed_73 : decode cX12_feed 73 = .ok (.iadd, 1) := by decide +kernel
theorem dX12_feed_74 : decode cX12_feed 74 = .ok (.putfield 130, 3) := by decide +kernel
theorem dX12_feed_77 : decode cX12_feed 77 = .ok (.iinc 4 (-1), 3) := by decide +kernel
theorem dX12_feed_80 : decode cX12_feed 80 = .ok (.goto (-36), 3) := by decide +kernel
theorem dX12_feed_83 : decode cX12_feed 83 = .ok (.aload_n 0, 1) := by decide +kernel
theorem dX12_feed_84 : decode cX12_feed 84 = .ok (.getfield 130, 3) := by decide +kernel
theorem dX12_feed_87 : decode cX12_feed 87 = .ok (.ireturn, 1) := by decide +kernel
theorem dX12_fill_0 : decode cX12_fill 0 = .ok (.iload_n 1, 1) := by decide +kernel
theorem dX12_fill_1 : decode cX12_fill 1 = .ok (.ifCond .lt 13, 3) := by decide +kernel
theorem dX12_fill_4 : decode cX12_fill 4 = .ok (.iload_n 3, 1) := by decide +kernel
theorem dX12_fill_5 : decode cX12_fill 5 = .ok (.ifCond .lt 9, 3) := by decide +kernel
theorem dX12_fill_8 : decode cX12_fill 8 = .ok (.iload_n 3, 1) := by decide +kernel
theorem dX12_fill_9 : decode cX12_fill 9 = .ok (.bipush 7, 2) := by decide +kernel
theorem dX12_fill_11 : decode cX12_fill 11 = .ok (.if_icmp .le 6, 3) := by decide +kernel
theorem dX12_fill_14 : decode cX12_fill 14 = .ok (.bipush (-2), 2) := by decide +kernel
theorem dX12_fill_16 : decode cX12_fill 16 = .ok (.ireturn, 1) := by decide +kernel
theorem dX12_fill_17 : decode cX12_fill 17 = .ok (.iload_n 1, 1) := by decide +kernel
theorem dX12_fill_18 : decode cX12_fill 18 = .ok (.sipush 8000, 3) := by decide +kernel
theorem dX12_fill_21 : decode cX12_fill 21 = .ok (.aload_n 0, 1) := by decide +kernel
theorem dX12_fill_22 : decode cX12_fill 22 = .ok (.getfield 130, 3) := by decide +kernel
theorem dX12_fill_25 : decode cX12_fill 25 = .ok (.isub, 1) := by decide +kernel
theorem dX12_fill_26 : decode cX12_fill 26 = .ok (.if_icmp .le 6, 3) := by decide +kernel
theorem dX12_fill_29 : decode cX12_fill 29 = .ok (.bipush (-4), 2) := by decide +kernel
theorem dX12_fill_31 : decode cX12_fill 31 = .ok (.ireturn, 1) := by decide +kernel
theorem dX12_fill_32 : decode cX12_fill 32 = .ok (.iload_n 2, 1) := by decide +kernel
theorem dX12_fill_33 : decode cX12_fill 33 = .ok (.istore 4, 2) := by decide +kernel
theorem dX12_fill_35 : decode cX12_fill 35 = .ok (.iconst 0, 1) := by decide +kernel
theorem dX12_fill_36 : decode cX12_fill 36 = .ok (.istore 5, 2) := by decide +kernel
theorem dX12_fill_38 : decode cX12_fill 38 = .ok (.iload 5, 2) := by decide +kernel
theorem dX12_fill_40 : decode cX12_fill 40 = .ok (.iload_n 1, 1) := by decide +kernel
theorem dX12_fill_41 : decode cX12_fill 41 = .ok (.if_icmp .ge 46, 3) := by decide +kernel
theorem dX12_fill_44 : decode cX12_fill 44 = .ok (.iload 4, 2) := by decide +kernel
theorem dX12_fill_46 : decode cX12_fill 46 = .ok (.ldc 133, 2) := by decide +kernel
theorem dX12_fill_48 : decode cX12_fill 48 = .ok (.imul, 1) := by decide +kernel
theorem dX12_fill_49 : decode cX12_fill 49 = .ok (.ldc 134, 2) := by decide +kernel
theorem dX12_fill_51 : decode cX12_fill 51 = .ok (.iadd, 1) := by decide +kernel
theorem dX12_fill_52 : decode cX12_fill 52 = .ok (.istore 4, 2) := by decide +kernel
theorem dX12_fill_54 : decode cX12_fill 54 = .ok (.aload_n 0, 1) := by decide +kernel
theorem dX12_fill_55 : decode cX12_fill 55 = .ok (.getfield 7, 3) := by decide +kernel
theorem dX12_fill_58 : decode cX12_fill 58 = .ok (.aload_n 0, 1) := by decide +kernel
theorem dX12_fill_59 : decode cX12_fill 59 = .ok (.getfield 130, 3) := by decide +kernel
theorem dX12_fill_62 : decode cX12_fill 62 = .ok (.iload 4, 2) := by decide +kernel
theorem dX12_fill_64 : decode cX12_fill 64 = .ok (.bipush 24, 2) := by decide +kernel
theorem dX12_fill_66 : decode cX12_fill 66 = .ok (.iushr, 1) := by decide +kernel
theorem dX12_fill_67 : decode cX12_fill 67 = .ok (.iload_n 3, 1) := by decide +kernel
theorem dX12_fill_68 : decode cX12_fill 68 = .ok (.iushr, 1) := by decide +kernel
theorem dX12_fill_69 : decode cX12_fill 69 = .ok (.i2b, 1) := by decide +kernel
theorem dX12_fill_70 : decode cX12_fill 70 = .ok (.bastore, 1) := by decide +kernel
theorem dX12_fill_71 : decode cX12_fill 71 = .ok (.aload_n 0, 1) := by decide +kernel
theorem dX12_fill_72 : decode cX12_fill 72 = .ok (.dup, 1) := by decide +kernel
theorem dX12_fill_73 : decode cX12_fill 73 = .ok (.getfield 130, 3) := by decide +kernel
theorem dX12_fill_76 : decode cX12_fill 76 = .ok (.iconst 1, 1) := by decide +kernel
theorem dX12_fill_77 : decode cX12_fill 77 = .ok (.iadd, 1) := by decide +kernel
theorem dX12_fill_78 : decode cX12_fill 78 = .ok (.putfield 130, 3) := by decide +kernel
theorem dX12_fill_81 : decode cX12_fill 81 = .ok (.iinc 5 1, 3) := by decide +kernel
theorem dX12_fill_84 : decode cX12_fill 84 = .ok (.goto (-46), 3) := by decide +kernel
theorem dX12_fill_87 : decode cX12_fill 87 = .ok (.aload_n 0, 1) := by decide +kernel
theorem dX12_fill_88 : decode cX12_fill 88 = .ok (.getfield 130, 3) := by decide +kernel
theorem dX12_fill_91 : decode cX12_fill 91 = .ok (.ireturn, 1) := by decide +kernel
theorem dX12_again_0 : decode cX12_again 0 = .ok (.iload_n 1, 1) := by decide +kernel
theorem dX12_again_1 : decode cX12_again 1 = .ok (.ifCond .lt 25, 3) := by decide +kernel
theorem dX12_again_4 : decode cX12_again 4 = .ok (.iload_n 2, 1) := by decide +kernel
theorem dX12_again_5 : decode cX12_again 5 = .ok (.ifCond .lt 21, 3) := by decide +kernel
theorem dX12_again_8 : decode cX12_again 8 = .ok (.iload_n 1, 1) := by decide +kernel
theorem dX12_again_9 : decode cX12_again 9 = .ok (.aload_n 0, 1) := by decide +kernel
theorem dX12_again_10 : decode cX12_again 10 = .ok (.getfield 130, 3) := by decide +kernel
theorem dX12_again_13 : decode cX12_again 13 = .ok (.if_icmp .gt 13, 3) := by decide +kernel
theorem dX12_again_16 : decode cX12_again 16 = .ok (.iload_n 2, 1) := by decide +kernel
theorem dX12_again_17 : decode cX12_again 17 = .ok (.aload_n 0, 1) := by decide +kernel
theorem dX12_again_18 : decode cX12_again 18 = .ok (.getfield 130, 3) := by decide +kernel
theorem dX12_again_21 : decode cX12_again 21 = .ok (.iload_n 1, 1) := by decide +kernel
theorem dX12_again_22 : decode cX12_again 22 = .ok (.isub, 1) := by decide +kernel
theorem dX12_again_23 : decode cX12_again 23 = .ok (.if_icmp .le 6, 3) := by decide +kernel
theorem dX12_again_26 : decode cX12_again 26 = .ok (.bipush (-2), 2) := by decide +kernel
theorem dX12_again_28 : decode cX12_again 28 = .ok (.ireturn, 1) := by decide +kernel
theorem dX12_again_29 : decode cX12_again 29 = .ok (.iload_n 2, 1) := by decide +kernel
theorem dX12_again_30 : decode cX12_again 30 = .ok (.sipush 8000, 3) := by decide +kernel
theorem dX12_again_33 : decode cX12_again 33 = .ok (.aload_n 0, 1) := by decide +kernel
theorem dX12_again_34 : decode cX12_again 34 = .ok (.getfield 130, 3) := by decide +kernel
theorem dX12_again_37 : decode cX12_again 37 = .ok (.isub, 1) := by decide +kernel
theorem dX12_again_38 : decode cX12_again 38 = .ok (.if_icmp .le 6, 3) := by decide +kernel
theorem dX12_again_41 : decode cX12_again 41 = .ok (.bipush (-4), 2) := by decide +kernel
theorem dX12_again_43 : decode cX12_again 43 = .ok (.ireturn, 1) := by decide +kernel
theorem dX12_again_44 : decode cX12_again 44 = .ok (.iconst 0, 1) := by decide +kernel
theorem dX12_again_45 : decode cX12_again 45 = .ok (.istore_n 3, 1) := by decide +kernel
theorem dX12_again_46 : decode cX12_again 46 = .ok (.iload_n 3, 1) := by decide +kernel
theorem dX12_again_47 : decode cX12_again 47 = .ok (.iload_n 2, 1) := by decide +kernel
theorem dX12_again_48 : decode cX12_again 48 = .ok (.if_icmp .ge 36, 3) := by decide +kernel
theorem dX12_again_51 : decode cX12_again 51 = .ok (.aload_n 0, 1) := by decide +kernel
theorem dX12_again_52 : decode cX12_again 52 = .ok (.getfield 7, 3) := by decide +kernel
theorem dX12_again_55 : decode cX12_again 55 = .ok (.aload_n 0, 1) := by decide +kernel
theorem dX12_again_56 : decode cX12_again 56 = .ok (.getfield 130, 3) := by decide +kernel
theorem dX12_again_59 : decode cX12_again 59 = .ok (.aload_n 0, 1) := by decide +kernel
theorem dX12_again_60 : decode cX12_again 60 = .ok (.getfield 7, 3) := by decide +kernel
theorem dX12_again_63 : decode cX12_again 63 = .ok (.iload_n 1, 1) := by decide +kernel
theorem dX12_again_64 : decode cX12_again 64 = .ok (.iload_n 3, 1) := by decide +kernel
theorem dX12_again_65 : decode cX12_again 65 = .ok (.iadd, 1) := by decide +kernel
theorem dX12_again_66 : decode cX12_again 66 = .ok (.baload, 1) := by decide +kernel
theorem dX12_again_67 : decode cX12_again 67 = .ok (.bastore, 1) := by decide +kernel
theorem dX12_again_68 : decode cX12_again 68 = .ok (.aload_n 0, 1) := by decide +kernel
theorem dX12_again_69 : decode cX12_again 69 = .ok (.dup, 1) := by decide +kernel
theorem dX12_again_70 : decode cX12_again 70 = .ok (.getfield 130, 3) := by decide +kernel
theorem dX12_again_73 : decode cX12_again 73 = .ok (.iconst 1, 1) := by decide +kernel
theorem dX12_again_74 : decode cX12_again 74 = .ok (.iadd, 1) := by decide +kernel
theorem dX12_again_75 : decode cX12_again 75 = .ok (.putfield 130, 3) := by decide +kernel
theorem dX12_again_78 : decode cX12_again 78 = .ok (.iinc 3 1, 3) := by decide +kernel
theorem dX12_again_81 : decode cX12_again 81 = .ok (.goto (-35), 3) := by decide +kernel
theorem dX12_again_84 : decode cX12_again 84 = .ok (.aload_n 0, 1) := by decide +kernel
theorem dX12_again_85 : decode cX12_again 85 = .ok (.getfield 130, 3) := by decide +kernel
theorem dX12_again_88 : decode cX12_again 88 = .ok (.ireturn, 1) := by decide +kernel
theorem dX12_size_0 : decode cX12_size 0 = .ok (.aload_n 0, 1) := by decide +kernel
theorem dX12_size_1 : decode cX12_size 1 = .ok (.getfield 130, 3) := by decide +kernel
theorem dX12_size_4 : decode cX12_size 4 = .ok (.ireturn, 1) := by decide +kernel
theorem dX12_set_0 : decode cX12_set 0 = .ok (.iload_n 1, 1) := by decide +kernel
theorem dX12_set_1 : decode cX12_set 1 = .ok (.ifCond .lt 22, 3) := by decide +kernel
theorem dX12_set_4 : decode cX12_set 4 = .ok (.iload_n 1, 1) := by decide +kernel
theorem dX12_set_5 : decode cX12_set 5 = .ok (.aload_n 0, 1) := by decide +kernel
theorem dX12_set_6 : decode cX12_set 6 = .ok (.getfield 130, 3) := by decide +kernel
theorem dX12_set_9 : decode cX12_set 9 = .ok (.if_icmp .ge 14, 3) := by decide +kernel
theorem dX12_set_12 : decode cX12_set 12 = .ok (.iload_n 2, 1) := by decide +kernel
theorem dX12_set_13 : decode cX12_set 13 = .ok (.ifCond .lt 10, 3) := by decide +kernel
theorem dX12_set_16 : decode cX12_set 16 = .ok (.iload_n 2, 1) := by decide +kernel
theorem dX12_set_17 : decode cX12_set 17 = .ok (.sipush 255, 3) := by decide +kernel
theorem dX12_set_20 : decode cX12_set 20 = .ok (.if_icmp .le 6, 3) := by decide +kernel
theorem dX12_set_23 : decode cX12_set 23 = .ok (.bipush (-2), 2) := by decide +kernel
theorem dX12_set_25 : decode cX12_set 25 = .ok (.ireturn, 1) := by decide +kernel
theorem dX12_set_26 : decode cX12_set 26 = .ok (.aload_n 0, 1) := by decide +kernel
theorem dX12_set_27 : decode cX12_set 27 = .ok (.getfield 7, 3) := by decide +kernel
theorem dX12_set_30 : decode cX12_set 30 = .ok (.iload_n 1, 1) := by decide +kernel
theorem dX12_set_31 : decode cX12_set 31 = .ok (.baload, 1) := by decide +kernel
theorem dX12_set_32 : decode cX12_set 32 = .ok (.sipush 255, 3) := by decide +kernel
theorem dX12_set_35 : decode cX12_set 35 = .ok (.iand, 1) := by decide +kernel
theorem dX12_set_36 : decode cX12_set 36 = .ok (.istore_n 3, 1) := by decide +kernel
theorem dX12_set_37 : decode cX12_set 37 = .ok (.aload_n 0, 1) := by decide +kernel
theorem dX12_set_38 : decode cX12_set 38 = .ok (.getfield 7, 3) := by decide +kernel
theorem dX12_set_41 : decode cX12_set 41 = .ok (.iload_n 1, 1) := by decide +kernel
theorem dX12_set_42 : decode cX12_set 42 = .ok (.iload_n 2, 1) := by decide +kernel
theorem dX12_set_43 : decode cX12_set 43 = .ok (.i2b, 1) := by decide +kernel
theorem dX12_set_44 : decode cX12_set 44 = .ok (.bastore, 1) := by decide +kernel
theorem dX12_set_45 : decode cX12_set 45 = .ok (.iload_n 3, 1) := by decide +kernel
theorem dX12_set_46 : decode cX12_set 46 = .ok (.ireturn, 1) := by decide +kernel
theorem dX12_cut_0 : decode cX12_cut 0 = .ok (.iload_n 1, 1) := by decide +kernel
theorem dX12_cut_1 : decode cX12_cut 1 = .ok (.ifCond .lt 11, 3) := by decide +kernel
theorem dX12_cut_4 : decode cX12_cut 4 = .ok (.iload_n 1, 1) := by decide +kernel
theorem dX12_cut_5 : decode cX12_cut 5 = .ok (.aload_n 0, 1) := by decide +kernel
theorem dX12_cut_6 : decode cX12_cut 6 = .ok (.getfield 130, 3) := by decide +kernel
theorem dX12_cut_9 : decode cX12_cut 9 = .ok (.if_icmp .le 6, 3) := by decide +kernel
theorem dX12_cut_12 : decode cX12_cut 12 = .ok (.bipush (-2), 2) := by decide +kernel
theorem dX12_cut_14 : decode cX12_cut 14 = .ok (.ireturn, 1) := by decide +kernel
theorem dX12_cut_15 : decode cX12_cut 15 = .ok (.aload_n 0, 1) := by decide +kernel
theorem dX12_cut_16 : decode cX12_cut 16 = .ok (.getfield 130, 3) := by decide +kernel
theorem dX12_cut_19 : decode cX12_cut 19 = .ok (.istore_n 2, 1) := by decide +kernel
theorem dX12_cut_20 : decode cX12_cut 20 = .ok (.aload_n 0, 1) := by decide +kernel
theorem dX12_cut_21 : decode cX12_cut 21 = .ok (.iload_n 1, 1) := by decide +kernel
theorem dX12_cut_22 : decode cX12_cut 22 = .ok (.putfield 130, 3) := by decide +kernel
theorem dX12_cut_25 : decode cX12_cut 25 = .ok (.iload_n 2, 1) := by decide +kernel
theorem dX12_cut_26 : decode cX12_cut 26 = .ok (.ireturn, 1) := by decide +kernel
theorem dX12_swap_0 : decode cX12_swap 0 = .ok (.aload_n 0, 1) := by decide +kernel
theorem dX12_swap_1 : decode cX12_swap 1 = .ok (.getfield 130, 3) := by decide +kernel
theorem dX12_swap_4 : decode cX12_swap 4 = .ok (.aload_n 0, 1) := by decide +kernel
theorem dX12_swap_5 : decode cX12_swap 5 = .ok (.getfield 135, 3) := by decide +kernel
theorem dX12_swap_8 : decode cX12_swap 8 = .ok (.if_icmp .le 10, 3) := by decide +kernel
theorem dX12_swap_11 : decode cX12_swap 11 = .ok (.aload_n 0, 1) := by decide +kernel
theorem dX12_swap_12 : decode cX12_swap 12 = .ok (.getfield 130, 3) := by decide +kernel
theorem dX12_swap_15 : decode cX12_swap 15 = .ok (.goto 7, 3) := by decide +kernel
theorem dX12_swap_18 : decode cX12_swap 18 = .ok (.aload_n 0, 1) := by decide +kernel
theorem dX12_swap_19 : decode cX12_swap 19 = .ok (.getfield 135, 3) := by decide +kernel
theorem dX12_swap_22 : decode cX12_swap 22 = .ok (.istore_n 1, 1) := by decide +kernel
theorem dX12_swap_23 : decode cX12_swap 23 = .ok (.iconst 0, 1) := by decide +kernel
theorem dX12_swap_24 : decode cX12_swap 24 = .ok (.istore_n 2, 1) := by decide +kernel
theorem dX12_swap_25 : decode cX12_swap 25 = .ok (.iload_n 2, 1) := by decide +kernel
theorem dX12_swap_26 : decode cX12_swap 26 = .ok (.iload_n 1, 1) := by decide +kernel
theorem dX12_swap_27 : decode cX12_swap 27 = .ok (.if_icmp .ge 35, 3) := by decide +kernel
theorem dX12_swap_30 : decode cX12_swap 30 = .ok (.aload_n 0, 1) := by decide +kernel
theorem dX12_swap_31 : decode cX12_swap 31 = .ok (.getfield 7, 3) := by decide +kernel
theorem dX12_swap_34 : decode cX12_swap 34 = .ok (.iload_n 2, 1) := by decide +kernel
theorem dX12_swap_35 : decode cX12_swap 35 = .ok (.baload, 1) := by decide +kernel
theorem dX12_swap_36 : decode cX12_swap 36 = .ok (.istore_n 3, 1) := by decide +kernel
theorem dX12_swap_37 : decode cX12_swap 37 = .ok (.aload_n 0, 1) := by decide +kernel
theorem dX12_swap_38 : decode cX12_swap 38 = .ok (.getfield 7, 3) := by decide +kernel
theorem dX12_swap_41 : decode cX12_swap 41 = .ok (.iload_n 2, 1) := by decide +kernel
theorem dX12_swap_42 : decode cX12_swap 42 = .ok (.aload_n 0, 1) := by decide +kernel
theorem dX12_swap_43 : decode cX12_swap 43 = .ok (.getfield 13, 3) := by decide +kernel
theorem dX12_swap_46 : decode cX12_swap 46 = .ok (.iload_n 2, 1) := by decide +kernel
theorem dX12_swap_47 : decode cX12_swap 47 = .ok (.baload, 1) := by decide +kernel
theorem dX12_swap_48 : decode cX12_swap 48 = .ok (.bastore, 1) := by decide +kernel
theorem dX12_swap_49 : decode cX12_swap 49 = .ok (.aload_n 0, 1) := by decide +kernel
theorem dX12_swap_50 : decode cX12_swap 50 = .ok (.getfield 13, 3) := by decide +kernel
theorem dX12_swap_53 : decode cX12_swap 53 = .ok (.iload_n 2, 1) := by decide +kernel
theorem dX12_swap_54 : decode cX12_swap 54 = .ok (.iload_n 3, 1) := by decide +kernel
theorem dX12_swap_55 : decode cX12_swap 55 = .ok (.bastore, 1) := by decide +kernel
theorem dX12_swap_56 : decode cX12_swap 56 = .ok (.iinc 2 1, 3) := by decide +kernel
theorem dX12_swap_59 : decode cX12_swap 59 = .ok (.goto (-34), 3) := by decide +kernel
theorem dX12_swap_62 : decode cX12_swap 62 = .ok (.aload_n 0, 1) := by decide +kernel
theorem dX12_swap_63 : decode cX12_swap 63 = .ok (.getfield 130, 3) := by decide +kernel
theorem dX12_swap_66 : decode cX12_swap 66 = .ok (.istore_n 2, 1) := by decide +kernel
theorem dX12_swap_67 : decode cX12_swap 67 = .ok (.aload_n 0, 1) := by decide +kernel
theorem dX12_swap_68 : decode cX12_swap 68 = .ok (.aload_n 0, 1) := by decide +kernel
theorem dX12_swap_69 : decode cX12_swap 69 = .ok (.getfield 135, 3) := by decide +kernel
theorem dX12_swap_72 : decode cX12_swap 72 = .ok (.putfield 130, 3) := by decide +kernel
theorem dX12_swap_75 : decode cX12_swap 75 = .ok (.aload_n 0, 1) := by decide +kernel
theorem dX12_swap_76 : decode cX12_swap 76 = .ok (.iload_n 2, 1) := by decide +kernel
theorem dX12_swap_77 : decode cX12_swap 77 = .ok (.putfield 135, 3) := by decide +kernel
theorem dX12_swap_80 : decode cX12_swap 80 = .ok (.aload_n 0, 1) := by decide +kernel
theorem dX12_swap_81 : decode cX12_swap 81 = .ok (.getfield 130, 3) := by decide +kernel
theorem dX12_swap_84 : decode cX12_swap 84 = .ok (.ireturn, 1) := by decide +kernel
theorem dX12_differ_0 : decode cX12_differ 0 = .ok (.aload_n 0, 1) := by decide +kernel
theorem dX12_differ_1 : decode cX12_differ 1 = .ok (.getfield 130, 3) := by decide +kernel
theorem dX12_differ_4 : decode cX12_differ 4 = .ok (.aload_n 0, 1) := by decide +kernel
theorem dX12_differ_5 : decode cX12_differ 5 = .ok (.getfield 135, 3) := by decide +kernel
theorem dX12_differ_8 : decode cX12_differ 8 = .ok (.if_icmp .ge 10, 3) := by decide +kernel
theorem dX12_differ_11 : decode cX12_differ 11 = .ok (.aload_n 0, 1) := by decide +kernel
theorem dX12_differ_12 : decode cX12_differ 12 = .ok (.getfield 130, 3) := by decide +kernel
theorem dX12_differ_15 : decode cX12_differ 15 = .ok (.goto 7, 3) := by decide +kernel
theorem dX12_differ_18 : decode cX12_differ 18 = .ok (.aload_n 0, 1) := by decide +kernel
theorem dX12_differ_19 : decode cX12_differ 19 = .ok (.getfield 135, 3) := by decide +kernel
theorem dX12_differ_22 : decode cX12_differ 22 = .ok (.istore_n 1, 1) := by decide +kernel
theorem dX12_differ_23 : decode cX12_differ 23 = .ok (.iconst 0, 1) := by decide +kernel
theorem dX12_differ_24 : decode cX12_differ 24 = .ok (.istore_n 2, 1) := by decide +kernel
theorem dX12_differ_25 : decode cX12_differ 25 = .ok (.iload_n 2, 1) := by decide +kernel
theorem dX12_differ_26 : decode cX12_differ 26 = .ok (.iload_n 1, 1) := by decide +kernel
theorem dX12_differ_27 : decode cX12_differ 27 = .ok (.if_icmp .ge 26, 3) := by decide +kernel
theorem dX12_differ_30 : decode cX12_differ 30 = .ok (.aload_n 0, 1) := by decide +kernel
theorem dX12_differ_31 : decode cX12_differ 31 = .ok (.getfield 7, 3) := by decide +kernel
theorem dX12_differ_34 : decode cX12_differ 34 = .ok (.iload_n 2, 1) := by decide +kernel
theorem dX12_differ_35 : decode cX12_differ 35 = .ok (.baload, 1) := by decide +kernel
theorem dX12_differ_36 : decode cX12_differ 36 = .ok (.aload_n 0, 1) := by decide +kernel
theorem dX12_differ_37 : decode cX12_differ 37 = .ok (.getfield 13, 3) := by decide +kernel
theorem dX12_differ_40 : decode cX12_differ 40 = .ok (.iload_n 2, 1) := by decide +kernel
theorem dX12_differ_41 : decode cX12_differ 41 = .ok (.baload, 1) := by decide +kernel
theorem dX12_differ_42 : decode cX12_differ 42 = .ok (.if_icmp .eq 5, 3) := by decide +kernel
theorem dX12_differ_45 : decode cX12_differ 45 = .ok (.iload_n 2, 1) := by decide +kernel
theorem dX12_differ_46 : decode cX12_differ 46 = .ok (.ireturn, 1) := by decide +kernel
theorem dX12_differ_47 : decode cX12_differ 47 = .ok (.iinc 2 1, 3) := by decide +kernel
theorem dX12_differ_50 : decode cX12_differ 50 = .ok (.goto (-25), 3) := by decide +kernel
theorem dX12_differ_53 : decode cX12_differ 53 = .ok (.aload_n 0, 1) := by decide +kernel
theorem dX12_differ_54 : decode cX12_differ 54 = .ok (.getfield 130, 3) := by decide +kernel
theorem dX12_differ_57 : decode cX12_differ 57 = .ok (.aload_n 0, 1) := by decide +kernel
theorem dX12_differ_58 : decode cX12_differ 58 = .ok (.getfield 135, 3) := by decide +kernel
theorem dX12_differ_61 : decode cX12_differ 61 = .ok (.if_icmp .ne 8, 3) := by decide +kernel
theorem dX12_differ_64 : decode cX12_differ 64 = .ok (.bipush (-3), 2) := by decide +kernel
theorem dX12_differ_66 : decode cX12_differ 66 = .ok (.goto 4, 3) := by decide +kernel
theorem dX12_differ_69 : decode cX12_differ 69 = .ok (.iload_n 1, 1) := by decide +kernel
theorem dX12_differ_70 : decode cX12_differ 70 = .ok (.ireturn, 1) := by decide +kernel
theorem dX12_out_0 : decode cX12_out 0 = .ok (.iload_n 1, 1) := by decide +kernel
theorem dX12_out_1 : decode cX12_out 1 = .ok (.ifCond .lt 11, 3) := by decide +kernel
theorem dX12_out_4 : decode cX12_out 4 = .ok (.iload_n 1, 1) := by decide +kernel
theorem dX12_out_5 : decode cX12_out 5 = .ok (.aload_n 0, 1) := by decide +kernel
theorem dX12_out_6 : decode cX12_out 6 = .ok (.getfield 135, 3) := by decide +kernel
theorem dX12_out_9 : decode cX12_out 9 = .ok (.if_icmp .lt 8, 3) := by decide +kernel
theorem dX12_out_12 : decode cX12_out 12 = .ok (.bipush (-2), 2) := by decide +kernel
theorem dX12_out_14 : decode cX12_out 14 = .ok (.goto 13, 3) := by decide +kernel
theorem dX12_out_17 : decode cX12_out 17 = .ok (.aload_n 0, 1) := by decide +kernel
theorem dX12_out_18 : decode cX12_out 18 = .ok (.getfield 13, 3) := by decide +kernel
theorem dX12_out_21 : decode cX12_out 21 = .ok (.iload_n 1, 1) := by decide +kernel
theorem dX12_out_22 : decode cX12_out 22 = .ok (.baload, 1) := by decide +kernel
theorem dX12_out_23 : decode cX12_out 23 = .ok (.sipush 255, 3) := by decide +kernel
theorem dX12_out_26 : decode cX12_out 26 = .ok (.iand, 1) := by decide +kernel
theorem dX12_out_27 : decode cX12_out 27 = .ok (.ireturn, 1) := by decide +kernel
theorem dX12_old_0 : decode cX12_old 0 = .ok (.aload_n 0, 1) := by decide +kernel
theorem dX12_old_1 : decode cX12_old 1 = .ok (.getfield 130, 3) := by decide +kernel
theorem dX12_old_4 : decode cX12_old 4 = .ok (.sipush 4000, 3) := by decide +kernel
theorem dX12_old_7 : decode cX12_old 7 = .ok (.if_icmp .le 6, 3) := by decide +kernel
theorem dX12_old_10 : decode cX12_old 10 = .ok (.bipush (-4), 2) := by decide +kernel
theorem dX12_old_12 : decode cX12_old 12 = .ok (.ireturn, 1) := by decide +kernel
theorem dX12_old_13 : decode cX12_old 13 = .ok (.iconst 0, 1) := by decide +kernel
theorem dX12_old_14 : decode cX12_old 14 = .ok (.istore_n 1, 1) := by decide +kernel
theorem dX12_old_15 : decode cX12_old 15 = .ok (.iload_n 1, 1) := by decide +kernel
theorem dX12_old_16 : decode cX12_old 16 = .ok (.aload_n 0, 1) := by decide +kernel
theorem dX12_old_17 : decode cX12_old 17 = .ok (.getfield 130, 3) := by decide +kernel
theorem dX12_old_20 : decode cX12_old 20 = .ok (.if_icmp .ge 21, 3) := by decide +kernel
theorem dX12_old_23 : decode cX12_old 23 = .ok (.aload_n 0, 1) := by decide +kernel
theorem dX12_old_24 : decode cX12_old 24 = .ok (.getfield 16, 3) := by decide +kernel
theorem dX12_old_27 : decode cX12_old 27 = .ok (.iload_n 1, 1) := by decide +kernel
theorem dX12_old_28 : decode cX12_old 28 = .ok (.aload_n 0, 1) := by decide +kernel
theorem dX12_old_29 : decode cX12_old 29 = .ok (.getfield 7, 3) := by decide +kernel
theorem dX12_old_32 : decode cX12_old 32 = .ok (.iload_n 1, 1) := by decide +kernel
theorem dX12_old_33 : decode cX12_old 33 = .ok (.baload, 1) := by decide +kernel
theorem dX12_old_34 : decode cX12_old 34 = .ok (.bastore, 1) := by decide +kernel
theorem dX12_old_35 : decode cX12_old 35 = .ok (.iinc 1 1, 3) := by decide +kernel
theorem dX12_old_38 : decode cX12_old 38 = .ok (.goto (-23), 3) := by decide +kernel
theorem dX12_old_41 : decode cX12_old 41 = .ok (.aload_n 0, 1) := by decide +kernel
theorem dX12_old_42 : decode cX12_old 42 = .ok (.aload_n 0, 1) := by decide +kernel
theorem dX12_old_43 : decode cX12_old 43 = .ok (.getfield 130, 3) := by decide +kernel
theorem dX12_old_46 : decode cX12_old 46 = .ok (.putfield 138, 3) := by decide +kernel
theorem dX12_old_49 : decode cX12_old 49 = .ok (.aload_n 0, 1) := by decide +kernel
theorem dX12_old_50 : decode cX12_old 50 = .ok (.getfield 130, 3) := by decide +kernel
theorem dX12_old_53 : decode cX12_old 53 = .ok (.ireturn, 1) := by decide +kernel
theorem dX12_given_0 : decode cX12_given 0 = .ok (.iload_n 1, 1) := by decide +kernel
theorem dX12_given_1 : decode cX12_given 1 = .ok (.ifCond .lt 19, 3) := by decide +kernel
theorem dX12_given_4 : decode cX12_given 4 = .ok (.iload_n 1, 1) := by decide +kernel
theorem dX12_given_5 : decode cX12_given 5 = .ok (.bipush 32, 2) := by decide +kernel
theorem dX12_given_7 : decode cX12_given 7 = .ok (.if_icmp .gt 13, 3) := by decide +kernel
theorem dX12_given_10 : decode cX12_given 10 = .ok (.iload_n 2, 1) := by decide +kernel
theorem dX12_given_11 : decode cX12_given 11 = .ok (.ifCond .lt 9, 3) := by decide +kernel
theorem dX12_given_14 : decode cX12_given 14 = .ok (.iload_n 2, 1) := by decide +kernel
theorem dX12_given_15 : decode cX12_given 15 = .ok (.bipush 16, 2) := by decide +kernel
theorem dX12_given_17 : decode cX12_given 17 = .ok (.if_icmp .le 6, 3) := by decide +kernel
theorem dX12_given_20 : decode cX12_given 20 = .ok (.bipush (-2), 2) := by decide +kernel
theorem dX12_given_22 : decode cX12_given 22 = .ok (.ireturn, 1) := by decide +kernel
theorem dX12_given_23 : decode cX12_given 23 = .ok (.aload_n 0, 1) := by decide +kernel
theorem dX12_given_24 : decode cX12_given 24 = .ok (.iconst 0, 1) := by decide +kernel
theorem dX12_given_25 : decode cX12_given 25 = .ok (.iconst 2, 1) := by decide +kernel
theorem dX12_given_26 : decode cX12_given 26 = .ok (.invokevirtual 114, 3) := by decide +kernel
theorem dX12_given_29 : decode cX12_given 29 = .ok (.aload_n 0, 1) := by decide +kernel
theorem dX12_given_30 : decode cX12_given 30 = .ok (.getfield 27, 3) := by decide +kernel
theorem dX12_given_33 : decode cX12_given 33 = .ok (.iconst 2, 1) := by decide +kernel
theorem dX12_given_34 : decode cX12_given 34 = .ok (.iload_n 1, 1) := by decide +kernel
theorem dX12_given_35 : decode cX12_given 35 = .ok (.iastore, 1) := by decide +kernel
theorem dX12_given_36 : decode cX12_given 36 = .ok (.aload_n 0, 1) := by decide +kernel
theorem dX12_given_37 : decode cX12_given 37 = .ok (.getfield 30, 3) := by decide +kernel
theorem dX12_given_40 : decode cX12_given 40 = .ok (.iconst 2, 1) := by decide +kernel
theorem dX12_given_41 : decode cX12_given 41 = .ok (.iload_n 2, 1) := by decide +kernel
theorem dX12_given_42 : decode cX12_given 42 = .ok (.iastore, 1) := by decide +kernel
theorem dX12_given_43 : decode cX12_given 43 = .ok (.sipush 256, 3) := by decide +kernel
theorem dX12_given_46 : decode cX12_given 46 = .ok (.ireturn, 1) := by decide +kernel
theorem dX12_entry_0 : decode cX12_entry 0 = .ok (.iload_n 1, 1) := by decide +kernel
theorem dX12_entry_1 : decode cX12_entry 1 = .ok (.ifCond .lt 30, 3) := by decide +kernel
theorem dX12_entry_4 : decode cX12_entry 4 = .ok (.iload_n 1, 1) := by decide +kernel
theorem dX12_entry_5 : decode cX12_entry 5 = .ok (.sipush 255, 3) := by decide +kernel
theorem dX12_entry_8 : decode cX12_entry 8 = .ok (.if_icmp .gt 23, 3) := by decide +kernel
theorem dX12_entry_11 : decode cX12_entry 11 = .ok (.iload_n 2, 1) := by decide +kernel
theorem dX12_entry_12 : decode cX12_entry 12 = .ok (.ifCond .lt 19, 3) := by decide +kernel
theorem dX12_entry_15 : decode cX12_entry 15 = .ok (.iload_n 2, 1) := by decide +kernel
theorem dX12_entry_16 : decode cX12_entry 16 = .ok (.iconst 5, 1) := by decide +kernel
theorem dX12_entry_17 : decode cX12_entry 17 = .ok (.if_icmp .gt 14, 3) := by decide +kernel
theorem dX12_entry_20 : decode cX12_entry 20 = .ok (.iload_n 3, 1) := by decide +kernel
theorem dX12_entry_21 : decode cX12_entry 21 = .ok (.ifCond .lt 10, 3) := by decide +kernel
theorem dX12_entry_24 : decode cX12_entry 24 = .ok (.iload_n 3, 1) := by decide +kernel
theorem dX12_entry_25 : decode cX12_entry 25 = .ok (.sipush 255, 3) := by decide +kernel
theorem dX12_entry_28 : decode cX12_entry 28 = .ok (.if_icmp .le 6, 3) := by decide +kernel
theorem dX12_entry_31 : decode cX12_entry 31 = .ok (.bipush (-2), 2) := by decide +kernel
theorem dX12_entry_33 : decode cX12_entry 33 = .ok (.ireturn, 1) := by decide +kernel
theorem dX12_entry_34 : decode cX12_entry 34 = .ok (.sipush 3072, 3) := by decide +kernel
theorem dX12_entry_37 : decode cX12_entry 37 = .ok (.sipush 256, 3) := by decide +kernel
theorem dX12_entry_40 : decode cX12_entry 40 = .ok (.iload_n 2, 1) := by decide +kernel
theorem dX12_entry_41 : decode cX12_entry 41 = .ok (.imul, 1) := by decide +kernel
theorem dX12_entry_42 : decode cX12_entry 42 = .ok (.iadd, 1) := by decide +kernel
theorem dX12_entry_43 : decode cX12_entry 43 = .ok (.iload_n 1, 1) := by decide +kernel
theorem dX12_entry_44 : decode cX12_entry 44 = .ok (.iadd, 1) := by decide +kernel
theorem dX12_entry_45 : decode cX12_entry 45 = .ok (.istore 4, 2) := by decide +kernel
theorem dX12_entry_47 : decode cX12_entry 47 = .ok (.aload_n 0, 1) := by decide +kernel
theorem dX12_entry_48 : decode cX12_entry 48 = .ok (.getfield 23, 3) := by decide +kernel
theorem dX12_entry_51 : decode cX12_entry 51 = .ok (.iload 4, 2) := by decide +kernel
theorem dX12_entry_53 : decode cX12_entry 53 = .ok (.iaload, 1) := by decide +kernel
theorem dX12_entry_54 : decode cX12_entry 54 = .ok (.istore 5, 2) := by decide +kernel
theorem dX12_entry_56 : decode cX12_entry 56 = .ok (.aload_n 0, 1) := by decide +kernel
theorem dX12_entry_57 : decode cX12_entry 57 = .ok (.getfield 23, 3) := by decide +kernel
theorem dX12_entry_60 : decode cX12_entry 60 = .ok (.iload 4, 2) := by decide +kernel
theorem dX12_entry_62 : decode cX12_entry 62 = .ok (.iload_n 3, 1) := by decide +kernel
theorem dX12_entry_63 : decode cX12_entry 63 = .ok (.iastore, 1) := by decide +kernel
theorem dX12_entry_64 : decode cX12_entry 64 = .ok (.iload 5, 2) := by decide +kernel
theorem dX12_entry_66 : decode cX12_entry 66 = .ok (.ireturn, 1) := by decide +kernel
theorem dX12_fails_0 : decode cX12_fails 0 = .ok (.aload_n 0, 1) := by decide +kernel
theorem dX12_fails_1 : decode cX12_fails 1 = .ok (.getfield 141, 3) := by decide +kernel
theorem dX12_fails_4 : decode cX12_fails 4 = .ok (.ifCond .ne 13, 3) := by decide +kernel
theorem dX12_fails_7 : decode cX12_fails 7 = .ok (.aload_n 0, 1) := by decide +kernel
theorem dX12_fails_8 : decode cX12_fails 8 = .ok (.iload_n 1, 1) := by decide +kernel
theorem dX12_fails_9 : decode cX12_fails 9 = .ok (.putfield 141, 3) := by decide +kernel
theorem dX12_fails_12 : decode cX12_fails 12 = .ok (.aload_n 0, 1) := by decide +kernel
theorem dX12_fails_13 : decode cX12_fails 13 = .ok (.iload_n 2, 1) := by decide +kernel
theorem dX12_fails_14 : decode cX12_fails 14 = .ok (.putfield 144, 3) := by decide +kernel
theorem dX12_fails_17 : decode cX12_fails 17 = .ok (.iconst 0, 1) := by decide +kernel
theorem dX12_fails_18 : decode cX12_fails 18 = .ok (.ireturn, 1) := by decide +kernel
theorem dX12_wants_0 : decode cX12_wants 0 = .ok (.aload_n 0, 1) := by decide +kernel
theorem dX12_wants_1 : decode cX12_wants 1 = .ok (.getfield 141, 3) := by decide +kernel
theorem dX12_wants_4 : decode cX12_wants 4 = .ok (.ifCond .ne 34, 3) := by decide +kernel
theorem dX12_wants_7 : decode cX12_wants 7 = .ok (.aload_n 0, 1) := by decide +kernel
theorem dX12_wants_8 : decode cX12_wants 8 = .ok (.getfield 147, 3) := by decide +kernel
theorem dX12_wants_11 : decode cX12_wants 11 = .ok (.aload_n 0, 1) := by decide +kernel
theorem dX12_wants_12 : decode cX12_wants 12 = .ok (.getfield 150, 3) := by decide +kernel
theorem dX12_wants_15 : decode cX12_wants 15 = .ok (.isub, 1) := by decide +kernel
theorem dX12_wants_16 : decode cX12_wants 16 = .ok (.i2l, 1) := by decide +kernel
theorem dX12_wants_17 : decode cX12_wants 17 = .ok (.lload_n 1, 1) := by decide +kernel
theorem dX12_wants_18 : decode cX12_wants 18 = .ok (.lcmp, 1) := by decide +kernel
theorem dX12_wants_19 : decode cX12_wants 19 = .ok (.ifCond .ge 15, 3) := by decide +kernel
theorem dX12_wants_22 : decode cX12_wants 22 = .ok (.aload_n 0, 1) := by decide +kernel
theorem dX12_wants_23 : decode cX12_wants 23 = .ok (.iconst 1, 1) := by decide +kernel
theorem dX12_wants_24 : decode cX12_wants 24 = .ok (.aload_n 0, 1) := by decide +kernel
theorem dX12_wants_25 : decode cX12_wants 25 = .ok (.getfield 147, 3) := by decide +kernel
theorem dX12_wants_28 : decode cX12_wants 28 = .ok (.invokevirtual 153, 3) := by decide +kernel
theorem dX12_wants_31 : decode cX12_wants 31 = .ok (.ifCond .eq 7, 3) := by decide +kernel
theorem dX12_wants_34 : decode cX12_wants 34 = .ok (.iconst 1, 1) := by decide +kernel
theorem dX12_wants_35 : decode cX12_wants 35 = .ok (.goto 4, 3) := by decide +kernel
theorem dX12_wants_38 : decode cX12_wants 38 = .ok (.iconst 0, 1) := by decide +kernel
theorem dX12_wants_39 : decode cX12_wants 39 = .ok (.ireturn, 1) := by decide +kernel
theorem dX12_big_0 : decode cX12_big 0 = .ok (.aload_n 0, 1) := by decide +kernel
theorem dX12_big_1 : decode cX12_big 1 = .ok (.iconst 0, 1) := by decide +kernel
theorem dX12_big_2 : decode cX12_big 2 = .ok (.putfield 157, 3) := by decide +kernel
theorem dX12_big_5 : decode cX12_big 5 = .ok (.aload_n 0, 1) := by decide +kernel
theorem dX12_big_6 : decode cX12_big 6 = .ok (.iconst 0, 1) := by decide +kernel
theorem dX12_big_7 : decode cX12_big 7 = .ok (.putfield 161, 3) := by decide +kernel
theorem dX12_big_10 : decode cX12_big 10 = .ok (.lconst 0, 1) := by decide +kernel
theorem dX12_big_11 : decode cX12_big 11 = .ok (.lstore_n 2, 1) := by decide +kernel
theorem dX12_big_12 : decode cX12_big 12 = .ok (.iconst 0, 1) := by decide +kernel
theorem dX12_big_13 : decode cX12_big 13 = .ok (.istore 4, 2) := by decide +kernel
theorem dX12_big_15 : decode cX12_big 15 = .ok (.iload 4, 2) := by decide +kernel
theorem dX12_big_17 : decode cX12_big 17 = .ok (.iconst 5, 1) := by decide +kernel
theorem dX12_big_18 : decode cX12_big 18 = .ok (.if_icmp .ge 88, 3) := by decide +kernel
theorem dX12_big_21 : decode cX12_big 21 = .ok (.aload_n 0, 1) := by decide +kernel
theorem dX12_big_22 : decode cX12_big 22 = .ok (.getfield 150, 3) := by decide +kernel
theorem dX12_big_25 : decode cX12_big 25 = .ok (.iload_n 1, 1) := by decide +kernel
theorem dX12_big_26 : decode cX12_big 26 = .ok (.if_icmp .lt 10, 3) := by decide +kernel
theorem dX12_big_29 : decode cX12_big 29 = .ok (.aload_n 0, 1) := by decide +kernel
theorem dX12_big_30 : decode cX12_big 30 = .ok (.iconst 1, 1) := by decide +kernel
theorem dX12_big_31 : decode cX12_big 31 = .ok (.putfield 161, 3) := by decide +kernel
theorem dX12_big_34 : decode cX12_big 34 = .ok (.lconst 0, 1) := by decide +kernel
theorem dX12_big_35 : decode cX12_big 35 = .ok (.lreturn, 1) := by decide +kernel
theorem dX12_big_36 : decode cX12_big 36 = .ok (.aload_n 0, 1) := by decide +kernel
theorem dX12_big_37 : decode cX12_big 37 = .ok (.getfield 36, 3) := by decide +kernel
theorem dX12_big_40 : decode cX12_big 40 = .ok (.aload_n 0, 1) := by decide +kernel
theorem dX12_big_41 : decode cX12_big 41 = .ok (.getfield 150, 3) := by decide +kernel
theorem dX12_big_44 : decode cX12_big 44 = .ok (.baload, 1) := by decide +kernel
theorem dX12_big_45 : decode cX12_big 45 = .ok (.sipush 255, 3) := by decide +kernel
theorem dX12_big_48 : decode cX12_big 48 = .ok (.iand, 1) := by decide +kernel
theorem dX12_big_49 : decode cX12_big 49 = .ok (.istore 5, 2) := by decide +kernel
theorem dX12_big_51 : decode cX12_big 51 = .ok (.aload_n 0, 1) := by decide +kernel
theorem dX12_big_52 : decode cX12_big 52 = .ok (.dup, 1) := by decide +kernel
theorem dX12_big_53 : decode cX12_big 53 = .ok (.getfield 150, 3) := by decide +kernel
theorem dX12_big_56 : decode cX12_big 56 = .ok (.iconst 1, 1) := by decide +kernel
theorem dX12_big_57 : decode cX12_big 57 = .ok (.iadd, 1) := by decide +kernel
theorem dX12_big_58 : decode cX12_big 58 = .ok (.putfield 150, 3) := by decide +kernel
theorem dX12_big_61 : decode cX12_big 61 = .ok (.lload_n 2, 1) := by decide +kernel
theorem dX12_big_62 : decode cX12_big 62 = .ok (.bipush 7, 2) := by decide +kernel
theorem dX12_big_64 : decode cX12_big 64 = .ok (.lshl, 1) := by decide +kernel
theorem dX12_big_65 : decode cX12_big 65 = .ok (.iload 5, 2) := by decide +kernel
theorem dX12_big_67 : decode cX12_big 67 = .ok (.bipush 127, 2) := by decide +kernel
theorem dX12_big_69 : decode cX12_big 69 = .ok (.iand, 1) := by decide +kernel
theorem dX12_big_70 : decode cX12_big 70 = .ok (.i2l, 1) := by decide +kernel
theorem dX12_big_71 : decode cX12_big 71 = .ok (.lor, 1) := by decide +kernel
theorem dX12_big_72 : decode cX12_big 72 = .ok (.lstore_n 2, 1) := by decide +kernel
theorem dX12_big_73 : decode cX12_big 73 = .ok (.iload 5, 2) := by decide +kernel
theorem dX12_big_75 : decode cX12_big 75 = .ok (.sipush 128, 3) := by decide +kernel
theorem dX12_big_78 : decode cX12_big 78 = .ok (.if_icmp .ge 22, 3) := by decide +kernel
theorem dX12_big_81 : decode cX12_big 81 = .ok (.aload_n 0, 1) := by decide +kernel
theorem dX12_big_82 : decode cX12_big 82 = .ok (.lload_n 2, 1) := by decide +kernel
theorem dX12_big_83 : decode cX12_big 83 = .ok (.ldc2_w 164, 3) := by decide +kernel
theorem dX12_big_86 : decode cX12_big 86 = .ok (.lcmp, 1) := by decide +kernel
theorem dX12_big_87 : decode cX12_big 87 = .ok (.ifCond .le 7, 3) := by decide +kernel
theorem dX12_big_90 : decode cX12_big 90 = .ok (.iconst 1, 1) := by decide +kernel
theorem dX12_big_91 : decode cX12_big 91 = .ok (.goto 4, 3) := by decide +kernel
theorem dX12_big_94 : decode cX12_big 94 = .ok (.iconst 0, 1) := by decide +kernel
theorem dX12_big_95 : decode cX12_big 95 = .ok (.putfield 157, 3) := by decide +kernel
theorem dX12_big_98 : decode cX12_big 98 = .ok (.lload_n 2, 1) := by decide +kernel
theorem dX12_big_99 : decode cX12_big 99 = .ok (.lreturn, 1) := by decide +kernel
theorem dX12_big_100 : decode cX12_big 100 = .ok (.iinc 4 1, 3) := by decide +kernel
theorem dX12_big_103 : decode cX12_big 103 = .ok (.goto (-88), 3) := by decide +kernel
theorem dX12_big_106 : decode cX12_big 106 = .ok (.aload_n 0, 1) := by decide +kernel
theorem dX12_big_107 : decode cX12_big 107 = .ok (.iconst 1, 1) := by decide +kernel
theorem dX12_big_108 : decode cX12_big 108 = .ok (.putfield 157, 3) := by decide +kernel
theorem dX12_big_111 : decode cX12_big 111 = .ok (.lconst 0, 1) := by decide +kernel
theorem dX12_big_112 : decode cX12_big 112 = .ok (.lreturn, 1) := by decide +kernel
theorem dX12_headBig_0 : decode cX12_headBig 0 = .ok (.aload_n 0, 1) := by decide +kernel
theorem dX12_headBig_1 : decode cX12_headBig 1 = .ok (.getfield 141, 3) := by decide +kernel
theorem dX12_headBig_4 : decode cX12_headBig 4 = .ok (.ifCond .le 5, 3) := by decide +kernel
theorem dX12_headBig_7 : decode cX12_headBig 7 = .ok (.lconst 0, 1) := by decide +kernel
theorem dX12_headBig_8 : decode cX12_headBig 8 = .ok (.lreturn, 1) := by decide +kernel
theorem dX12_headBig_9 : decode cX12_headBig 9 = .ok (.aload_n 0, 1) := by decide +kernel
theorem dX12_headBig_10 : decode cX12_headBig 10 = .ok (.getfield 150, 3) := by decide +kernel
theorem dX12_headBig_13 : decode cX12_headBig 13 = .ok (.istore_n 1, 1) := by decide +kernel
theorem dX12_headBig_14 : decode cX12_headBig 14 = .ok (.aload_n 0, 1) := by decide +kernel
theorem dX12_headBig_15 : decode cX12_headBig 15 = .ok (.aload_n 0, 1) := by decide +kernel
theorem dX12_headBig_16 : decode cX12_headBig 16 = .ok (.getfield 147, 3) := by decide +kernel
theorem dX12_headBig_19 : decode cX12_headBig 19 = .ok (.invokevirtual 166, 3) := by decide +kernel
theorem dX12_headBig_22 : decode cX12_headBig 22 = .ok (.lstore_n 2, 1) := by decide +kernel
theorem dX12_headBig_23 : decode cX12_headBig 23 = .ok (.aload_n 0, 1) := by decide +kernel
theorem dX12_headBig_24 : decode cX12_headBig 24 = .ok (.getfield 161, 3) := by decide +kernel
theorem dX12_headBig_27 : decode cX12_headBig 27 = .ok (.ifCond .eq 16, 3) := by decide +kernel
theorem dX12_headBig_30 : decode cX12_headBig 30 = .ok (.aload_n 0, 1) := by decide +kernel
theorem dX12_headBig_31 : decode cX12_headBig 31 = .ok (.iconst 1, 1) := by decide +kernel
theorem dX12_headBig_32 : decode cX12_headBig 32 = .ok (.aload_n 0, 1) := by decide +kernel
theorem dX12_headBig_33 : decode cX12_headBig 33 = .ok (.getfield 147, 3) := by decide +kernel
theorem dX12_headBig_36 : decode cX12_headBig 36 = .ok (.invokevirtual 153, 3) := by decide +kernel
theorem dX12_headBig_39 : decode cX12_headBig 39 = .ok (.pop, 1) := by decide +kernel
theorem dX12_headBig_40 : decode cX12_headBig 40 = .ok (.goto 17, 3) := by decide +kernel
theorem dX12_headBig_43 : decode cX12_headBig 43 = .ok (.aload_n 0, 1) := by decide +kernel
theorem dX12_headBig_44 : decode cX12_headBig 44 = .ok (.getfield 157, 3) := by decide +kernel
theorem dX12_headBig_47 : decode cX12_headBig 47 = .ok (.ifCond .eq 10, 3) := by decide +kernel
theorem dX12_headBig_50 : decode cX12_headBig 50 = .ok (.aload_n 0, 1) := by decide +kernel
theorem dX12_headBig_51 : decode cX12_headBig 51 = .ok (.iconst 3, 1) := by decide +kernel
theorem dX12_headBig_52 : decode cX12_headBig 52 = .ok (.iload_n 1, 1) := by decide +kernel
theorem dX12_headBig_53 : decode cX12_headBig 53 = .ok (.invokevirtual 153, 3) := by decide +kernel
theorem dX12_headBig_56 : decode cX12_headBig 56 = .ok (.pop, 1) := by decide +kernel
theorem dX12_headBig_57 : decode cX12_headBig 57 = .ok (.aload_n 0, 1) := by decide +kernel
theorem dX12_headBig_58 : decode cX12_headBig 58 = .ok (.getfield 141, 3) := by decide +kernel
theorem dX12_headBig_61 : decode cX12_headBig 61 = .ok (.ifCond .le 7, 3) := by decide +kernel
theorem dX12_headBig_64 : decode cX12_headBig 64 = .ok (.lconst 0, 1) := by decide +kernel
theorem dX12_headBig_65 : decode cX12_headBig 65 = .ok (.goto 4, 3) := by decide +kernel
theorem dX12_headBig_68 : decode cX12_headBig 68 = .ok (.lload_n 2, 1) := by decide +kernel
theorem dX12_headBig_69 : decode cX12_headBig 69 = .ok (.lreturn, 1) := by decide +kernel
theorem dX12_head_0 : decode cX12_head 0 = .ok (.aload_n 0, 1) := by decide +kernel
theorem dX12_head_1 : decode cX12_head 1 = .ok (.ldc2_w 170, 3) := by decide +kernel
theorem dX12_head_4 : decode cX12_head 4 = .ok (.invokevirtual 172, 3) := by decide +kernel
theorem dX12_head_7 : decode cX12_head 7 = .ok (.ifCond .ne 5, 3) := by decide +kernel
theorem dX12_head_10 : decode cX12_head 10 = .ok (.iconst 0, 1) := by decide +kernel
theorem dX12_head_11 : decode cX12_head 11 = .ok (.ireturn, 1) := by decide +kernel
theorem dX12_head_12 : decode cX12_head 12 = .ok (.aload_n 0, 1) := by decide +kernel
theorem dX12_head_13 : decode cX12_head 13 = .ok (.getfield 36, 3) := by decide +kernel
theorem dX12_head_16 : decode cX12_head 16 = .ok (.aload_n 0, 1) := by decide +kernel
theorem dX12_head_17 : decode cX12_head 17 = .ok (.getfield 150, 3) := by decide +kernel
theorem dX12_head_20 : decode cX12_head 20 = .ok (.baload, 1) := by decide +kernel
theorem dX12_head_21 : decode cX12_head 21 = .ok (.sipush 255, 3) := by decide +kernel
theorem dX12_head_24 : decode cX12_head 24 = .ok (.iand, 1) := by decide +kernel
theorem dX12_head_25 : decode cX12_head 25 = .ok (.sipush 214, 3) := by decide +kernel
theorem dX12_head_28 : decode cX12_head 28 = .ok (.if_icmp .ne 59, 3) := by decide +kernel
theorem dX12_head_31 : decode cX12_head 31 = .ok (.aload_n 0, 1) := by decide +kernel
theorem dX12_head_32 : decode cX12_head 32 = .ok (.getfield 36, 3) := by decide +kernel
theorem dX12_head_35 : decode cX12_head 35 = .ok (.aload_n 0, 1) := by decide +kernel
theorem dX12_head_36 : decode cX12_head 36 = .ok (.getfield 150, 3) := by decide +kernel
theorem dX12_head_39 : decode cX12_head 39 = .ok (.iconst 1, 1) := by decide +kernel
theorem dX12_head_40 : decode cX12_head 40 = .ok (.iadd, 1) := by decide +kernel
theorem dX12_head_41 : decode cX12_head 41 = .ok (.baload, 1) := by decide +kernel
theorem dX12_head_42 : decode cX12_head 42 = .ok (.sipush 255, 3) := by decide +kernel
theorem dX12_head_45 : decode cX12_head 45 = .ok (.iand, 1) := by decide +kernel
theorem dX12_head_46 : decode cX12_head 46 = .ok (.sipush 195, 3) := by decide +kernel
theorem dX12_head_49 : decode cX12_head 49 = .ok (.if_icmp .ne 38, 3) := by decide +kernel
theorem dX12_head_52 : decode cX12_head 52 = .ok (.aload_n 0, 1) := by decide +kernel
theorem dX12_head_53 : decode cX12_head 53 = .ok (.getfield 36, 3) := by decide +kernel
theorem dX12_head_56 : decode cX12_head 56 = .ok (.aload_n 0, 1) := by decide +kernel
theorem dX12_head_57 : decode cX12_head 57 = .ok (.getfield 150, 3) := by decide +kernel
theorem dX12_head_60 : decode cX12_head 60 = .ok (.iconst 2, 1) := by decide +kernel
theorem dX12_head_61 : decode cX12_head 61 = .ok (.iadd, 1) := by decide +kernel
theorem dX12_head_62 : decode cX12_head 62 = .ok (.baload, 1) := by decide +kernel
theorem dX12_head_63 : decode cX12_head 63 = .ok (.sipush 255, 3) := by decide +kernel
theorem dX12_head_66 : decode cX12_head 66 = .ok (.iand, 1) := by decide +kernel
theorem dX12_head_67 : decode cX12_head 67 = .ok (.sipush 196, 3) := by decide +kernel
theorem dX12_head_70 : decode cX12_head 70 = .ok (.if_icmp .ne 17, 3) := by decide +kernel
theorem dX12_head_73 : decode cX12_head 73 = .ok (.aload_n 0, 1) := by decide +kernel
theorem dX12_head_74 : decode cX12_head 74 = .ok (.getfield 36, 3) := by decide +kernel
theorem dX12_head_77 : decode cX12_head 77 = .ok (.aload_n 0, 1) := by decide +kernel
theorem dX12_head_78 : decode cX12_head 78 = .ok (.getfield 150, 3) := by decide +kernel
theorem dX12_head_81 : decode cX12_head 81 = .ok (.iconst 3, 1) := by decide +kernel
theorem dX12_head_82 : decode cX12_head 82 = .ok (.iadd, 1) := by decide +kernel
theorem dX12_head_83 : decode cX12_head 83 = .ok (.baload, 1) := by decide +kernel
theorem dX12_head_84 : decode cX12_head 84 = .ok (.ifCond .eq 15, 3) := by decide +kernel
theorem dX12_head_87 : decode cX12_head 87 = .ok (.aload_n 0, 1) := by decide +kernel
theorem dX12_head_88 : decode cX12_head 88 = .ok (.iconst 2, 1) := by decide +kernel
theorem dX12_head_89 : decode cX12_head 89 = .ok (.aload_n 0, 1) := by decide +kernel
theorem dX12_head_90 : decode cX12_head 90 = .ok (.getfield 150, 3) := by decide +kernel
theorem dX12_head_93 : decode cX12_head 93 = .ok (.invokevirtual 153, 3) := by decide +kernel
theorem dX12_head_96 : decode cX12_head 96 = .ok (.pop, 1) := by decide +kernel
theorem dX12_head_97 : decode cX12_head 97 = .ok (.iconst 0, 1) := by decide +kernel
theorem dX12_head_98 : decode cX12_head 98 = .ok (.ireturn, 1) := by decide +kernel
theorem dX12_head_99 : decode cX12_head 99 = .ok (.aload_n 0, 1) := by decide +kernel
theorem dX12_head_100 : decode cX12_head 100 = .ok (.dup, 1) := by decide +kernel
theorem dX12_head_101 : decode cX12_head 101 = .ok (.getfield 150, 3) := by decide +kernel
theorem dX12_head_104 : decode cX12_head 104 = .ok (.iconst 4, 1) := by decide +kernel
theorem dX12_head_105 : decode cX12_head 105 = .ok (.iadd, 1) := by decide +kernel
theorem dX12_head_106 : decode cX12_head 106 = .ok (.putfield 150, 3) := by decide +kernel
theorem dX12_head_109 : decode cX12_head 109 = .ok (.aload_n 0, 1) := by decide +kernel
theorem dX12_head_110 : decode cX12_head 110 = .ok (.lconst 1, 1) := by decide +kernel
theorem dX12_head_111 : decode cX12_head 111 = .ok (.invokevirtual 172, 3) := by decide +kernel
theorem dX12_head_114 : decode cX12_head 114 = .ok (.ifCond .ne 5, 3) := by decide +kernel
theorem dX12_head_117 : decode cX12_head 117 = .ok (.iconst 0, 1) := by decide +kernel
theorem dX12_head_118 : decode cX12_head 118 = .ok (.ireturn, 1) := by decide +kernel
theorem dX12_head_119 : decode cX12_head 119 = .ok (.aload_n 0, 1) := by decide +kernel
theorem dX12_head_120 : decode cX12_head 120 = .ok (.getfield 36, 3) := by decide +kernel
theorem dX12_head_123 : decode cX12_head 123 = .ok (.aload_n 0, 1) := by decide +kernel
theorem dX12_head_124 : decode cX12_head 124 = .ok (.getfield 150, 3) := by decide +kernel
theorem dX12_head_127 : decode cX12_head 127 = .ok (.baload, 1) := by decide +kernel
theorem dX12_head_128 : decode cX12_head 128 = .ok (.sipush 255, 3) := by decide +kernel
theorem dX12_head_131 : decode cX12_head 131 = .ok (.iand, 1) := by decide +kernel
theorem dX12_head_132 : decode cX12_head 132 = .ok (.istore_n 2, 1) := by decide +kernel
theorem dX12_head_133 : decode cX12_head 133 = .ok (.iload_n 2, 1) := by decide +kernel
theorem dX12_head_134 : decode cX12_head 134 = .ok (.iload_n 1, 1) := by decide +kernel
theorem dX12_head_135 : decode cX12_head 135 = .ok (.iconst (-1), 1) := by decide +kernel
theorem dX12_head_136 : decode cX12_head 136 = .ok (.ixor, 1) := by decide +kernel
theorem dX12_head_137 : decode cX12_head 137 = .ok (.iand, 1) := by decide +kernel
theorem dX12_head_138 : decode cX12_head 138 = .ok (.ifCond .eq 15, 3) := by decide +kernel
theorem dX12_head_141 : decode cX12_head 141 = .ok (.aload_n 0, 1) := by decide +kernel
theorem dX12_head_142 : decode cX12_head 142 = .ok (.iconst 4, 1) := by decide +kernel
theorem dX12_head_143 : decode cX12_head 143 = .ok (.aload_n 0, 1) := by decide +kernel
theorem dX12_head_144 : decode cX12_head 144 = .ok (.getfield 150, 3) := by decide +kernel
theorem dX12_head_147 : decode cX12_head 147 = .ok (.invokevirtual 153, 3) := by decide +kernel
theorem dX12_head_150 : decode cX12_head 150 = .ok (.pop, 1) := by decide +kernel
theorem dX12_head_151 : decode cX12_head 151 = .ok (.iconst 0, 1) := by decide +kernel
theorem dX12_head_152 : decode cX12_head 152 = .ok (.ireturn, 1) := by decide +kernel
theorem dX12_head_153 : decode cX12_head 153 = .ok (.aload_n 0, 1) := by decide +kernel
theorem dX12_head_154 : decode cX12_head 154 = .ok (.dup, 1) := by decide +kernel
theorem dX12_head_155 : decode cX12_head 155 = .ok (.getfield 150, 3) := by decide +kernel
theorem dX12_head_158 : decode cX12_head 158 = .ok (.iconst 1, 1) := by decide +kernel
theorem dX12_head_159 : decode cX12_head 159 = .ok (.iadd, 1) := by decide +kernel
theorem dX12_head_160 : decode cX12_head 160 = .ok (.putfield 150, 3) := by decide +kernel
theorem dX12_head_163 : decode cX12_head 163 = .ok (.iload_n 2, 1) := by decide +kernel
theorem dX12_head_164 : decode cX12_head 164 = .ok (.ireturn, 1) := by decide +kernel
theorem dX12_appendix_0 : decode cX12_appendix 0 = .ok (.aload_n 0, 1) := by decide +kernel
theorem dX12_appendix_1 : decode cX12_appendix 1 = .ok (.invokevirtual 176, 3) := by decide +kernel
theorem dX12_appendix_4 : decode cX12_appendix 4 = .ok (.lstore_n 1, 1) := by decide +kernel
theorem dX12_appendix_5 : decode cX12_appendix 5 = .ok (.aload_n 0, 1) := by decide +kernel
theorem dX12_appendix_6 : decode cX12_appendix 6 = .ok (.lload_n 1, 1) := by decide +kernel
theorem dX12_appendix_7 : decode cX12_appendix 7 = .ok (.invokevirtual 172, 3) := by decide +kernel
theorem dX12_appendix_10 : decode cX12_appendix 10 = .ok (.ifCond .eq 40, 3) := by decide +kernel
theorem dX12_appendix_13 : decode cX12_appendix 13 = .ok (.aload_n 0, 1) := by decide +kernel
theorem dX12_appendix_14 : decode cX12_appendix 14 = .ok (.dup, 1) := by decide +kernel
theorem dX12_appendix_15 : decode cX12_appendix 15 = .ok (.getfield 150, 3) := by decide +kernel
theorem dX12_appendix_18 : decode cX12_appendix 18 = .ok (.lload_n 1, 1) := by decide +kernel
theorem dX12_appendix_19 : decode cX12_appendix 19 = .ok (.l2i, 1) := by decide +kernel
theorem dX12_appendix_20 : decode cX12_appendix 20 = .ok (.iadd, 1) := by decide +kernel
theorem dX12_appendix_21 : decode cX12_appendix 21 = .ok (.putfield 150, 3) := by decide +kernel
theorem dX12_appendix_24 : decode cX12_appendix 24 = .ok (.aload_n 0, 1) := by decide +kernel
theorem dX12_appendix_25 : decode cX12_appendix 25 = .ok (.getfield 61, 3) := by decide +kernel
theorem dX12_appendix_28 : decode cX12_appendix 28 = .ok (.bipush 6, 2) := by decide +kernel
theorem dX12_appendix_30 : decode cX12_appendix 30 = .ok (.aload_n 0, 1) := by decide +kernel
theorem dX12_appendix_31 : decode cX12_appendix 31 = .ok (.getfield 180, 3) := by decide +kernel
theorem dX12_appendix_34 : decode cX12_appendix 34 = .ok (.ifCond .eq 8, 3) := by decide +kernel
theorem dX12_appendix_37 : decode cX12_appendix 37 = .ok (.lload_n 1, 1) := by decide +kernel
theorem dX12_appendix_38 : decode cX12_appendix 38 = .ok (.l2i, 1) := by decide +kernel
theorem dX12_appendix_39 : decode cX12_appendix 39 = .ok (.goto 10, 3) := by decide +kernel
theorem dX12_appendix_42 : decode cX12_appendix 42 = .ok (.aload_n 0, 1) := by decide +kernel
theorem dX12_appendix_43 : decode cX12_appendix 43 = .ok (.getfield 61, 3) := by decide +kernel
theorem dX12_appendix_46 : decode cX12_appendix 46 = .ok (.bipush 6, 2) := by decide +kernel
theorem dX12_appendix_48 : decode cX12_appendix 48 = .ok (.iaload, 1) := by decide +kernel
theorem dX12_appendix_49 : decode cX12_appendix 49 = .ok (.iastore, 1) := by decide +kernel
theorem dX12_appendix_50 : decode cX12_appendix 50 = .ok (.return_, 1) := by decide +kernel
theorem dX12_noCaches_0 : decode cX12_noCaches 0 = .ok (.iconst 0, 1) := by decide +kernel
theorem dX12_noCaches_1 : decode cX12_noCaches 1 = .ok (.istore_n 1, 1) := by decide +kernel
theorem dX12_noCaches_2 : decode cX12_noCaches 2 = .ok (.iload_n 1, 1) := by decide +kernel
theorem dX12_noCaches_3 : decode cX12_noCaches 3 = .ok (.bipush 32, 2) := by decide +kernel
theorem dX12_noCaches_5 : decode cX12_noCaches 5 = .ok (.if_icmp .ge 16, 3) := by decide +kernel
theorem dX12_noCaches_8 : decode cX12_noCaches 8 = .ok (.aload_n 0, 1) := by decide +kernel
theorem dX12_noCaches_9 : decode cX12_noCaches 9 = .ok (.getfield 54, 3) := by decide +kernel
theorem dX12_noCaches_12 : decode cX12_noCaches 12 = .ok (.iload_n 1, 1) := by decide +kernel
theorem dX12_noCaches_13 : decode cX12_noCaches 13 = .ok (.lconst 0, 1) := by decide +kernel
theorem dX12_noCaches_14 : decode cX12_noCaches 14 = .ok (.lastore, 1) := by decide +kernel
theorem dX12_noCaches_15 : decode cX12_noCaches 15 = .ok (.iinc 1 1, 3) := by decide +kernel
theorem dX12_noCaches_18 : decode cX12_noCaches 18 = .ok (.goto (-16), 3) := by decide +kernel
theorem dX12_noCaches_21 : decode cX12_noCaches 21 = .ok (.iconst 0, 1) := by decide +kernel
theorem dX12_noCaches_22 : decode cX12_noCaches 22 = .ok (.istore_n 1, 1) := by decide +kernel
theorem dX12_noCaches_23 : decode cX12_noCaches 23 = .ok (.iload_n 1, 1) := by decide +kernel
theorem dX12_noCaches_24 : decode cX12_noCaches 24 = .ok (.sipush 4096, 3) := by decide +kernel
theorem dX12_noCaches_27 : decode cX12_noCaches 27 = .ok (.if_icmp .ge 16, 3) := by decide +kernel
theorem dX12_noCaches_30 : decode cX12_noCaches 30 = .ok (.aload_n 0, 1) := by decide +kernel
theorem dX12_noCaches_31 : decode cX12_noCaches 31 = .ok (.getfield 58, 3) := by decide +kernel
theorem dX12_noCaches_34 : decode cX12_noCaches 34 = .ok (.iload_n 1, 1) := by decide +kernel
theorem dX12_noCaches_35 : decode cX12_noCaches 35 = .ok (.lconst 0, 1) := by decide +kernel
theorem dX12_noCaches_36 : decode cX12_noCaches 36 = .ok (.lastore, 1) := by decide +kernel
theorem dX12_noCaches_37 : decode cX12_noCaches 37 = .ok (.iinc 1 1, 3) := by decide +kernel
theorem dX12_noCaches_40 : decode cX12_noCaches 40 = .ok (.goto (-17), 3) := by decide +kernel
theorem dX12_noCaches_43 : decode cX12_noCaches 43 = .ok (.aload_n 0, 1) := by decide +kernel
theorem dX12_noCaches_44 : decode cX12_noCaches 44 = .ok (.iconst 0, 1) := by decide +kernel
theorem dX12_noCaches_45 : decode cX12_noCaches 45 = .ok (.putfield 216, 3) := by decide +kernel
theorem dX12_noCaches_48 : decode cX12_noCaches 48 = .ok (.return_, 1) := by decide +kernel
theorem dX12_addressBy_0 : decode cX12_addressBy 0 = .ok (.aload_n 0, 1) := by decide +kernel
theorem dX12_addressBy_1 : decode cX12_addressBy 1 = .ok (.getfield 27, 3) := by decide +kernel
theorem dX12_addressBy_4 : decode cX12_addressBy 4 = .ok (.aload_n 0, 1) := by decide +kernel
theorem dX12_addressBy_5 : decode cX12_addressBy 5 = .ok (.getfield 183, 3) := by decide +kernel
theorem dX12_addressBy_8 : decode cX12_addressBy 8 = .ok (.iaload, 1) := by decide +kernel
theorem dX12_addressBy_9 : decode cX12_addressBy 9 = .ok (.istore_n 2, 1) := by decide +kernel
theorem dX12_addressBy_10 : decode cX12_addressBy 10 = .ok (.aload_n 0, 1) := by decide +kernel
theorem dX12_addressBy_11 : decode cX12_addressBy 11 = .ok (.iconst 0, 1) := by decide +kernel
theorem dX12_addressBy_12 : decode cX12_addressBy 12 = .ok (.putfield 157, 3) := by decide +kernel
theorem dX12_addressBy_15 : decode cX12_addressBy 15 = .ok (.aload_n 0, 1) := by decide +kernel
theorem dX12_addressBy_16 : decode cX12_addressBy 16 = .ok (.iconst 0, 1) := by decide +kernel
theorem dX12_addressBy_17 : decode cX12_addressBy 17 = .ok (.putfield 161, 3) := by decide +kernel
theorem dX12_addressBy_20 : decode cX12_addressBy 20 = .ok (.iload_n 1, 1) := by decide +kernel
theorem dX12_addressBy_21 : decode cX12_addressBy 21 = .ok (.iconst 2, 1) := by decide +kernel
theorem dX12_addressBy_22 : decode cX12_addressBy 22 = .ok (.iload_n 2, 1) := by decide +kernel
theorem dX12_addressBy_23 : decode cX12_addressBy 23 = .ok (.iadd, 1) := by decide +kernel
theorem dX12_addressBy_24 : decode cX12_addressBy 24 = .ok (.if_icmp .lt 62, 3) := by decide +kernel
theorem dX12_addressBy_27 : decode cX12_addressBy 27 = .ok (.aload_n 0, 1) := by decide +kernel
theorem dX12_addressBy_28 : decode cX12_addressBy 28 = .ok (.getfield 245, 3) := by decide +kernel
theorem dX12_addressBy_31 : decode cX12_addressBy 31 = .ok (.aload_n 0, 1) := by decide +kernel
theorem dX12_addressBy_32 : decode cX12_addressBy 32 = .ok (.getfield 248, 3) := by decide +kernel
theorem dX12_addressBy_35 : decode cX12_addressBy 35 = .ok (.if_icmp .lt 10, 3) := by decide +kernel
theorem dX12_addressBy_38 : decode cX12_addressBy 38 = .ok (.aload_n 0, 1) := by decide +kernel
theorem dX12_addressBy_39 : decode cX12_addressBy 39 = .ok (.iconst 1, 1) := by decide +kernel
theorem dX12_addressBy_40 : decode cX12_addressBy 40 = .ok (.putfield 161, 3) := by decide +kernel
theorem dX12_addressBy_43 : decode cX12_addressBy 43 = .ok (.lconst 0, 1) := by decide +kernel
theorem dX12_addressBy_44 : decode cX12_addressBy 44 = .ok (.lreturn, 1) := by decide +kernel
theorem dX12_addressBy_45 : decode cX12_addressBy 45 = .ok (.aload_n 0, 1) := by decide +kernel
theorem dX12_addressBy_46 : decode cX12_addressBy 46 = .ok (.getfield 36, 3) := by decide +kernel
theorem dX12_addressBy_49 : decode cX12_addressBy 49 = .ok (.aload_n 0, 1) := by decide +kernel
theorem dX12_addressBy_50 : decode cX12_addressBy 50 = .ok (.getfield 245, 3) := by decide +kernel
theorem dX12_addressBy_53 : decode cX12_addressBy 53 = .ok (.baload, 1) := by decide +kernel
theorem dX12_addressBy_54 : decode cX12_addressBy 54 = .ok (.sipush 255, 3) := by decide +kernel
theorem dX12_addressBy_57 : decode cX12_addressBy 57 = .ok (.iand, 1) := by decide +kernel
theorem dX12_addressBy_58 : decode cX12_addressBy 58 = .ok (.istore_n 3, 1) := by decide +kernel
theorem dX12_addressBy_59 : decode cX12_addressBy 59 = .ok (.aload_n 0, 1) := by decide +kernel
theorem dX12_addressBy_60 : decode cX12_addressBy 60 = .ok (.dup, 1) := by decide +kernel
theorem dX12_addressBy_61 : decode cX12_addressBy 61 = .ok (.getfield 245, 3) := by decide +kernel
theorem dX12_addressBy_64 : decode cX12_addressBy 64 = .ok (.iconst 1, 1) := by decide +kernel
theorem dX12_addressBy_65 : decode cX12_addressBy 65 = .ok (.iadd, 1) := by decide +kernel
theorem dX12_addressBy_66 : decode cX12_addressBy 66 = .ok (.putfield 245, 3) := by decide +kernel
theorem dX12_addressBy_69 : decode cX12_addressBy 69 = .ok (.aload_n 0, 1) := by decide +kernel
theorem dX12_addressBy_70 : decode cX12_addressBy 70 = .ok (.getfield 58, 3) := by decide +kernel
theorem dX12_addressBy_73 : decode cX12_addressBy 73 = .ok (.sipush 256, 3) := by decide +kernel
theorem dX12_addressBy_76 : decode cX12_addressBy 76 = .ok (.iload_n 1, 1) := by decide +kernel
theorem dX12_addressBy_77 : decode cX12_addressBy 77 = .ok (.iconst 2, 1) := by decide +kernel
theorem dX12_addressBy_78 : decode cX12_addressBy 78 = .ok (.isub, 1) := by decide +kernel
theorem dX12_addressBy_79 : decode cX12_addressBy 79 = .ok (.iload_n 2, 1) := by decide +kernel
theorem dX12_addressBy_80 : decode cX12_addressBy 80 = .ok (.isub, 1) := by decide +kernel
theorem dX12_addressBy_81 : decode cX12_addressBy 81 = .ok (.imul, 1) := by decide +kernel
theorem dX12_addressBy_82 : decode cX12_addressBy 82 = .ok (.iload_n 3, 1) := by decide +kernel
theorem dX12_addressBy_83 : decode cX12_addressBy 83 = .ok (.iadd, 1) := by decide +kernel
theorem dX12_addressBy_84 : decode cX12_addressBy 84 = .ok (.laload, 1) := by decide +kernel
theorem dX12_addressBy_85 : decode cX12_addressBy 85 = .ok (.lreturn, 1) := by decide +kernel
theorem dX12_addressBy_86 : decode cX12_addressBy 86 = .ok (.aload_n 0, 1) := by decide +kernel
theorem dX12_addressBy_87 : decode cX12_addressBy 87 = .ok (.getfield 150, 3) := by decide +kernel
theorem dX12_addressBy_90 : decode cX12_addressBy 90 = .ok (.istore_n 3, 1) := by decide +kernel
theorem dX12_addressBy_91 : decode cX12_addressBy 91 = .ok (.aload_n 0, 1) := by decide +kernel
theorem dX12_addressBy_92 : decode cX12_addressBy 92 = .ok (.aload_n 0, 1) := by decide +kernel
theorem dX12_addressBy_93 : decode cX12_addressBy 93 = .ok (.getfield 245, 3) := by decide +kernel
theorem dX12_addressBy_96 : decode cX12_addressBy 96 = .ok (.putfield 150, 3) := by decide +kernel
theorem dX12_addressBy_99 : decode cX12_addressBy 99 = .ok (.aload_n 0, 1) := by decide +kernel
theorem dX12_addressBy_100 : decode cX12_addressBy 100 = .ok (.aload_n 0, 1) := by decide +kernel
theorem dX12_addressBy_101 : decode cX12_addressBy 101 = .ok (.getfield 248, 3) := by decide +kernel
theorem dX12_addressBy_104 : decode cX12_addressBy 104 = .ok (.invokevirtual 166, 3) := by decide +kernel
theorem dX12_addressBy_107 : decode cX12_addressBy 107 = .ok (.lstore 4, 2) := by decide +kernel
theorem dX12_addressBy_109 : decode cX12_addressBy 109 = .ok (.aload_n 0, 1) := by decide +kernel
theorem dX12_addressBy_110 : decode cX12_addressBy 110 = .ok (.aload_n 0, 1) := by decide +kernel
theorem dX12_addressBy_111 : decode cX12_addressBy 111 = .ok (.getfield 150, 3) := by decide +kernel
theorem dX12_addressBy_114 : decode cX12_addressBy 114 = .ok (.putfield 245, 3) := by decide +kernel
theorem dX12_addressBy_117 : decode cX12_addressBy 117 = .ok (.aload_n 0, 1) := by decide +kernel
theorem dX12_addressBy_118 : decode cX12_addressBy 118 = .ok (.iload_n 3, 1) := by decide +kernel
theorem dX12_addressBy_119 : decode cX12_addressBy 119 = .ok (.putfield 150, 3) := by decide +kernel
theorem dX12_addressBy_122 : decode cX12_addressBy 122 = .ok (.iload_n 1, 1) := by decide +kernel
theorem dX12_addressBy_123 : decode cX12_addressBy 123 = .ok (.ifCond .ne 8, 3) := by decide +kernel
theorem dX12_addressBy_126 : decode cX12_addressBy 126 = .ok (.lload 4, 2) := by decide +kernel
theorem dX12_addressBy_128 : decode cX12_addressBy 128 = .ok (.goto 30, 3) := by decide +kernel
theorem dX12_addressBy_131 : decode cX12_addressBy 131 = .ok (.iload_n 1, 1) := by decide +kernel
theorem dX12_addressBy_132 : decode cX12_addressBy 132 = .ok (.iconst 1, 1) := by decide +kernel
theorem dX12_addressBy_133 : decode cX12_addressBy 133 = .ok (.if_icmp .ne 14, 3) := by decide +kernel
theorem dX12_addressBy_136 : decode cX12_addressBy 136 = .ok (.aload_n 0, 1) := by decide +kernel
theorem dX12_addressBy_137 : decode cX12_addressBy 137 = .ok (.getfield 236, 3) := by decide +kernel
theorem dX12_addressBy_140 : decode cX12_addressBy 140 = .ok (.i2l, 1) := by decide +kernel
theorem dX12_addressBy_141 : decode cX12_addressBy 141 = .ok (.lload 4, 2) := by decide +kernel
theorem dX12_addressBy_143 : decode cX12_addressBy 143 = .ok (.lsub, 1) := by decide +kernel
theorem dX12_addressBy_144 : decode cX12_addressBy 144 = .ok (.goto 14, 3) := by decide +kernel
theorem dX12_addressBy_147 : decode cX12_addressBy 147 = .ok (.aload_n 0, 1) := by decide +kernel
theorem dX12_addressBy_148 : decode cX12_addressBy 148 = .ok (.getfield 54, 3) := by decide +kernel
theorem dX12_addressBy_151 : decode cX12_addressBy 151 = .ok (.iload_n 1, 1) := by decide +kernel
theorem dX12_addressBy_152 : decode cX12_addressBy 152 = .ok (.iconst 2, 1) := by decide +kernel
theorem dX12_addressBy_153 : decode cX12_addressBy 153 = .ok (.isub, 1) := by decide +kernel
theorem dX12_addressBy_154 : decode cX12_addressBy 154 = .ok (.laload, 1) := by decide +kernel
theorem dX12_addressBy_155 : decode cX12_addressBy 155 = .ok (.lload 4, 2) := by decide +kernel
theorem dX12_addressBy_157 : decode cX12_addressBy 157 = .ok (.ladd, 1) := by decide +kernel
theorem dX12_addressBy_158 : decode cX12_addressBy 158 = .ok (.lreturn, 1) := by decide +kernel
theorem dX12_remember_0 : decode cX12_remember 0 = .ok (.aload_n 0, 1) := by decide +kernel
theorem dX12_remember_1 : decode cX12_remember 1 = .ok (.getfield 27, 3) := by decide +kernel
theorem dX12_remember_4 : decode cX12_remember 4 = .ok (.aload_n 0, 1) := by decide +kernel
theorem dX12_remember_5 : decode cX12_remember 5 = .ok (.getfield 183, 3) := by decide +kernel
theorem dX12_remember_8 : decode cX12_remember 8 = .ok (.iaload, 1) := by decide +kernel
theorem dX12_remember_9 : decode cX12_remember 9 = .ok (.istore_n 3, 1) := by decide +kernel
theorem dX12_remember_10 : decode cX12_remember 10 = .ok (.aload_n 0, 1) := by decide +kernel
theorem dX12_remember_11 : decode cX12_remember 11 = .ok (.getfield 30, 3) := by decide +kernel
theorem dX12_remember_14 : decode cX12_remember 14 = .ok (.aload_n 0, 1) := by decide +kernel
theorem dX12_remember_15 : decode cX12_remember 15 = .ok (.getfield 183, 3) := by decide +kernel
theorem dX12_remember_18 : decode cX12_remember 18 = .ok (.iaload, 1) := by decide +kernel
theorem dX12_remember_19 : decode cX12_remember 19 = .ok (.istore 4, 2) := by decide +kernel
theorem dX12_remember_21 : decode cX12_remember 21 = .ok (.iload_n 3, 1) := by decide +kernel
theorem dX12_remember_22 : decode cX12_remember 22 = .ok (.ifCond .le 25, 3) := by decide +kernel
theorem dX12_remember_25 : decode cX12_remember 25 = .ok (.aload_n 0, 1) := by decide +kernel
theorem dX12_remember_26 : decode cX12_remember 26 = .ok (.getfield 54, 3) := by decide +kernel
theorem dX12_remember_29 : decode cX12_remember 29 = .ok (.aload_n 0, 1) := by decide +kernel
theorem dX12_remember_30 : decode cX12_remember 30 = .ok (.getfield 216, 3) := by decide +kernel
theorem dX12_remember_33 : decode cX12_remember 33 = .ok (.lload_n 1, 1) := by decide +kernel
theorem dX12_remember_34 : decode cX12_remember 34 = .ok (.lastore, 1) := by decide +kernel
theorem dX12_remember_35 : decode cX12_remember 35 = .ok (.aload_n 0, 1) := by decide +kernel
theorem dX12_remember_36 : decode cX12_remember 36 = .ok (.aload_n 0, 1) := by decide +kernel
theorem dX12_remember_37 : decode cX12_remember 37 = .ok (.getfield 216, 3) := by decide +kernel
theorem dX12_remember_40 : decode cX12_remember 40 = .ok (.iconst 1, 1) := by decide +kernel
theorem dX12_remember_41 : decode cX12_remember 41 = .ok (.iadd, 1) := by decide +kernel
theorem dX12_remember_42 : decode cX12_remember 42 = .ok (.iload_n 3, 1) := by decide +kernel
theorem dX12_remember_43 : decode cX12_remember 43 = .ok (.irem, 1) := by decide +kernel
theorem dX12_remember_44 : decode cX12_remember 44 = .ok (.putfield 216, 3) := by decide +kernel
theorem dX12_remember_47 : decode cX12_remember 47 = .ok (.iload 4, 2) := by decide +kernel
theorem dX12_remember_49 : decode cX12_remember 49 = .ok (.ifCond .le 19, 3) := by decide +kernel
theorem dX12_remember_52 : decode cX12_remember 52 = .ok (.aload_n 0, 1) := by decide +kernel
theorem dX12_remember_53 : decode cX12_remember 53 = .ok (.getfield 58, 3) := by decide +kernel
theorem dX12_remember_56 : decode cX12_remember 56 = .ok (.lload_n 1, 1) := by decide +kernel
theorem dX12_remember_57 : decode cX12_remember 57 = .ok (.sipush 256, 3) := by decide +kernel
theorem dX12_remember_60 : decode cX12_remember 60 = .ok (.iload 4, 2) := by decide +kernel
theorem dX12_remember_62 : decode cX12_remember 62 = .ok (.imul, 1) := by decide +kernel
theorem dX12_remember_63 : decode cX12_remember 63 = .ok (.i2l, 1) := by decide +kernel
theorem dX12_remember_64 : decode cX12_remember 64 = .ok (.lrem, 1) := by decide +kernel
theorem dX12_remember_65 : decode cX12_remember 65 = .ok (.l2i, 1) := by decide +kernel
theorem dX12_remember_66 : decode cX12_remember 66 = .ok (.lload_n 1, 1) := by decide +kernel
theorem dX12_remember_67 : decode cX12_remember 67 = .ok (.lastore, 1) := by decide +kernel
theorem dX12_remember_68 : decode cX12_remember 68 = .ok (.return_, 1) := by decide +kernel
theorem dX12_act_0 : decode cX12_act 0 = .ok (.iload_n 1, 1) := by decide +kernel
theorem dX12_act_1 : decode cX12_act 1 = .ok (.ifCond .ne 4, 3) := by decide +kernel
theorem dX12_act_4 : decode cX12_act 4 = .ok (.return_, 1) := by decide +kernel
theorem dX12_act_5 : decode cX12_act 5 = .ok (.iload_n 2, 1) := by decide +kernel
theorem dX12_act_6 : decode cX12_act 6 = .ok (.i2l, 1) := by decide +kernel
theorem dX12_act_7 : decode cX12_act 7 = .ok (.lstore 7, 2) := by decide +kernel
theorem dX12_act_9 : decode cX12_act 9 = .ok (.iload_n 2, 1) := by decide +kernel
theorem dX12_act_10 : decode cX12_act 10 = .ok (.ifCond .ne 35, 3) := by decide +kernel
theorem dX12_act_13 : decode cX12_act 13 = .ok (.aload_n 0, 1) := by decide +kernel
theorem dX12_act_14 : decode cX12_act 14 = .ok (.iload 6, 2) := by decide +kernel
theorem dX12_act_16 : decode cX12_act 16 = .ok (.invokevirtual 166, 3) := by decide +kernel
theorem dX12_act_19 : decode cX12_act 19 = .ok (.lstore 7, 2) := by decide +kernel
theorem dX12_act_21 : decode cX12_act 21 = .ok (.aload_n 0, 1) := by decide +kernel
theorem dX12_act_22 : decode cX12_act 22 = .ok (.getfield 157, 3) := by decide +kernel
theorem dX12_act_25 : decode cX12_act 25 = .ok (.ifCond .ne 10, 3) := by decide +kernel
theorem dX12_act_28 : decode cX12_act 28 = .ok (.aload_n 0, 1) := by decide +kernel
theorem dX12_act_29 : decode cX12_act 29 = .ok (.getfield 161, 3) := by decide +kernel
theorem dX12_act_32 : decode cX12_act 32 = .ok (.ifCond .eq 13, 3) := by decide +kernel
theorem dX12_act_35 : decode cX12_act 35 = .ok (.aload_n 0, 1) := by decide +kernel
theorem dX12_act_36 : decode cX12_act 36 = .ok (.bipush 11, 2) := by decide +kernel
theorem dX12_act_38 : decode cX12_act 38 = .ok (.iload 5, 2) := by decide +kernel
theorem dX12_act_40 : decode cX12_act 40 = .ok (.invokevirtual 153, 3) := by decide +kernel
theorem dX12_act_43 : decode cX12_act 43 = .ok (.pop, 1) := by decide +kernel
theorem dX12_act_44 : decode cX12_act 44 = .ok (.return_, 1) := by decide +kernel
theorem dX12_act_45 : decode cX12_act 45 = .ok (.aload_n 0, 1) := by decide +kernel
theorem dX12_act_46 : decode cX12_act 46 = .ok (.getfield 236, 3) := by decide +kernel
theorem dX12_act_49 : decode cX12_act 49 = .ok (.aload_n 0, 1) := by decide +kernel
theorem dX12_act_50 : decode cX12_act 50 = .ok (.getfield 219, 3) := by decide +kernel
theorem dX12_act_53 : decode cX12_act 53 = .ok (.isub, 1) := by decide +kernel
theorem dX12_act_54 : decode cX12_act 54 = .ok (.i2l, 1) := by decide +kernel
theorem dX12_act_55 : decode cX12_act 55 = .ok (.lload 7, 2) := by decide +kernel
theorem dX12_act_57 : decode cX12_act 57 = .ok (.ladd, 1) := by decide +kernel
theorem dX12_act_58 : decode cX12_act 58 = .ok (.iload 4, 2) := by decide +kernel
theorem dX12_act_60 : decode cX12_act 60 = .ok (.i2l, 1) := by decide +kernel
theorem dX12_act_61 : decode cX12_act 61 = .ok (.lcmp, 1) := by decide +kernel
theorem dX12_act_62 : decode cX12_act 62 = .ok (.ifCond .le 13, 3) := by decide +kernel
theorem dX12_act_65 : decode cX12_act 65 = .ok (.aload_n 0, 1) := by decide +kernel
theorem dX12_act_66 : decode cX12_act 66 = .ok (.bipush 13, 2) := by decide +kernel
theorem dX12_act_68 : decode cX12_act 68 = .ok (.iload 5, 2) := by decide +kernel
theorem dX12_act_70 : decode cX12_act 70 = .ok (.invokevirtual 153, 3) := by decide +kernel
theorem dX12_act_73 : decode cX12_act 73 = .ok (.pop, 1) := by decide +kernel
theorem dX12_act_74 : decode cX12_act 74 = .ok (.return_, 1) := by decide +kernel
theorem dX12_act_75 : decode cX12_act 75 = .ok (.iload_n 1, 1) := by decide +kernel
theorem dX12_act_76 : decode cX12_act 76 = .ok (.iconst 3, 1) := by decide +kernel
theorem dX12_act_77 : decode cX12_act 77 = .ok (.if_icmp .eq 38, 3) := by decide +kernel
theorem dX12_act_80 : decode cX12_act 80 = .ok (.iload_n 1, 1) := by decide +kernel
theorem dX12_act_81 : decode cX12_act 81 = .ok (.iconst 1, 1) := by decide +kernel
theorem dX12_act_82 : decode cX12_act 82 = .ok (.if_icmp .ne 8, 3) := by decide +kernel
theorem dX12_act_85 : decode cX12_act 85 = .ok (.lload 7, 2) := by decide +kernel
theorem dX12_act_87 : decode cX12_act 87 = .ok (.goto 4, 3) := by decide +kernel
theorem dX12_act_90 : decode cX12_act 90 = .ok (.lconst 1, 1) := by decide +kernel
theorem dX12_act_91 : decode cX12_act 91 = .ok (.aload_n 0, 1) := by decide +kernel
theorem dX12_act_92 : decode cX12_act 92 = .ok (.getfield 242, 3) := by decide +kernel
theorem dX12_act_95 : decode cX12_act 95 = .ok (.aload_n 0, 1) := by decide +kernel
theorem dX12_act_96 : decode cX12_act 96 = .ok (.getfield 239, 3) := by decide +kernel
theorem dX12_act_99 : decode cX12_act 99 = .ok (.isub, 1) := by decide +kernel
theorem dX12_act_100 : decode cX12_act 100 = .ok (.i2l, 1) := by decide +kernel
theorem dX12_act_101 : decode cX12_act 101 = .ok (.lcmp, 1) := by decide +kernel
theorem dX12_act_102 : decode cX12_act 102 = .ok (.ifCond .le 13, 3) := by decide +kernel
theorem dX12_act_105 : decode cX12_act 105 = .ok (.aload_n 0, 1) := by decide +kernel
theorem dX12_act_106 : decode cX12_act 106 = .ok (.bipush 12, 2) := by decide +kernel
theorem dX12_act_108 : decode cX12_act 108 = .ok (.iload 5, 2) := by decide +kernel
theorem dX12_act_110 : decode cX12_act 110 = .ok (.invokevirtual 153, 3) := by decide +kernel
theorem dX12_act_113 : decode cX12_act 113 = .ok (.pop, 1) := by decide +kernel
theorem dX12_act_114 : decode cX12_act 114 = .ok (.return_, 1) := by decide +kernel
theorem dX12_act_115 : decode cX12_act 115 = .ok (.iload_n 1, 1) := by decide +kernel
theorem dX12_act_116 : decode cX12_act 116 = .ok (.iconst 3, 1) := by decide +kernel
theorem dX12_act_117 : decode cX12_act 117 = .ok (.if_icmp .ne 11, 3) := by decide +kernel
theorem dX12_act_120 : decode cX12_act 120 = .ok (.aload_n 0, 1) := by decide +kernel
theorem dX12_act_121 : decode cX12_act 121 = .ok (.iload_n 3, 1) := by decide +kernel
theorem dX12_act_122 : decode cX12_act 122 = .ok (.invokevirtual 255, 3) := by decide +kernel
theorem dX12_act_125 : decode cX12_act 125 = .ok (.goto 6, 3) := by decide +kernel
theorem dX12_act_128 : decode cX12_act 128 = .ok (.ldc2_w 258, 3) := by decide +kernel
theorem dX12_act_131 : decode cX12_act 131 = .ok (.lstore 9, 2) := by decide +kernel
theorem dX12_act_133 : decode cX12_act 133 = .ok (.iload_n 1, 1) := by decide +kernel
theorem dX12_act_134 : decode cX12_act 134 = .ok (.iconst 3, 1) := by decide +kernel
theorem dX12_act_135 : decode cX12_act 135 = .ok (.if_icmp .ne 45, 3) := by decide +kernel
theorem dX12_act_138 : decode cX12_act 138 = .ok (.aload_n 0, 1) := by decide +kernel
theorem dX12_act_139 : decode cX12_act 139 = .ok (.getfield 157, 3) := by decide +kernel
theorem dX12_act_142 : decode cX12_act 142 = .ok (.ifCond .ne 28, 3) := by decide +kernel
theorem dX12_act_145 : decode cX12_act 145 = .ok (.aload_n 0, 1) := by decide +kernel
theorem dX12_act_146 : decode cX12_act 146 = .ok (.getfield 161, 3) := by decide +kernel
theorem dX12_act_149 : decode cX12_act 149 = .ok (.ifCond .ne 21, 3) := by decide +kernel
theorem dX12_act_152 : decode cX12_act 152 = .ok (.lload 9, 2) := by decide +kernel
theorem dX12_act_154 : decode cX12_act 154 = .ok (.lconst 0, 1) := by decide +kernel
theorem dX12_act_155 : decode cX12_act 155 = .ok (.lcmp, 1) := by decide +kernel
theorem dX12_act_156 : decode cX12_act 156 = .ok (.ifCond .lt 14, 3) := by decide +kernel
theorem dX12_act_159 : decode cX12_act 159 = .ok (.lload 9, 2) := by decide +kernel
theorem dX12_act_161 : decode cX12_act 161 = .ok (.aload_n 0, 1) := by decide +kernel
theorem dX12_act_162 : decode cX12_act 162 = .ok (.getfield 236, 3) := by decide +kernel
theorem dX12_act_165 : decode cX12_act 165 = .ok (.i2l, 1) := by decide +kernel
theorem dX12_act_166 : decode cX12_act 166 = .ok (.lcmp, 1) := by decide +kernel
theorem dX12_act_167 : decode cX12_act 167 = .ok (.ifCond .lt 13, 3) := by decide +kernel
theorem dX12_act_170 : decode cX12_act 170 = .ok (.aload_n 0, 1) := by decide +kernel
theorem dX12_act_171 : decode cX12_act 171 = .ok (.bipush 14, 2) := by decide +kernel
theorem dX12_act_173 : decode cX12_act 173 = .ok (.iload 5, 2) := by decide +kernel
theorem dX12_act_175 : decode cX12_act 175 = .ok (.invokevirtual 153, 3) := by decide +kernel
theorem dX12_act_178 : decode cX12_act 178 = .ok (.pop, 1) := by decide +kernel
theorem dX12_act_179 : decode cX12_act 179 = .ok (.return_, 1) := by decide +kernel
theorem dX12_act_180 : decode cX12_act 180 = .ok (.iload_n 1, 1) := by decide +kernel
theorem dX12_act_181 : decode cX12_act 181 = .ok (.iconst 3, 1) := by decide +kernel
theorem dX12_act_182 : decode cX12_act 182 = .ok (.if_icmp .ne 9, 3) := by decide +kernel
theorem dX12_act_185 : decode cX12_act 185 = .ok (.aload_n 0, 1) := by decide +kernel
theorem dX12_act_186 : decode cX12_act 186 = .ok (.lload 9, 2) := by decide +kernel
theorem dX12_act_188 : decode cX12_act 188 = .ok (.invokevirtual 260, 3) := by decide +kernel
theorem dX12_act_191 : decode cX12_act 191 = .ok (.iconst 0, 1) := by decide +kernel
theorem dX12_act_192 : decode cX12_act 192 = .ok (.istore 11, 2) := by decide +kernel
theorem dX12_act_194 : decode cX12_act 194 = .ok (.iload 11, 2) := by decide +kernel
theorem dX12_act_196 : decode cX12_act 196 = .ok (.i2l, 1) := by decide +kernel
theorem dX12_act_197 : decode cX12_act 197 = .ok (.lload 7, 2) := by decide +kernel
theorem dX12_act_199 : decode cX12_act 199 = .ok (.lcmp, 1) := by decide +kernel
theorem dX12_act_200 : decode cX12_act 200 = .ok (.ifCond .ge 76, 3) := by decide +kernel
theorem dX12_act_203 : decode cX12_act 203 = .ok (.aload_n 0, 1) := by decide +kernel
theorem dX12_act_204 : decode cX12_act 204 = .ok (.getfield 51, 3) := by decide +kernel
theorem dX12_act_207 : decode cX12_act 207 = .ok (.aload_n 0, 1) := by decide +kernel
theorem dX12_act_208 : decode cX12_act 208 = .ok (.getfield 236, 3) := by decide +kernel
theorem dX12_act_211 : decode cX12_act 211 = .ok (.iload_n 1, 1) := by decide +kernel
theorem dX12_act_212 : decode cX12_act 212 = .ok (.iconst 3, 1) := by decide +kernel
theorem dX12_act_213 : decode cX12_act 213 = .ok (.if_icmp .ne 17, 3) := by decide +kernel
theorem dX12_act_216 : decode cX12_act 216 = .ok (.aload_n 0, 1) := by decide +kernel
theorem dX12_act_217 : decode cX12_act 217 = .ok (.getfield 51, 3) := by decide +kernel
theorem dX12_act_220 : decode cX12_act 220 = .ok (.lload 9, 2) := by decide +kernel
theorem dX12_act_222 : decode cX12_act 222 = .ok (.l2i, 1) := by decide +kernel
theorem dX12_act_223 : decode cX12_act 223 = .ok (.iload 11, 2) := by decide +kernel
theorem dX12_act_225 : decode cX12_act 225 = .ok (.iadd, 1) := by decide +kernel
theorem dX12_act_226 : decode cX12_act 226 = .ok (.baload, 1) := by decide +kernel
theorem dX12_act_227 : decode cX12_act 227 = .ok (.goto 32, 3) := by decide +kernel
theorem dX12_act_230 : decode cX12_act 230 = .ok (.iload_n 1, 1) := by decide +kernel
theorem dX12_act_231 : decode cX12_act 231 = .ok (.iconst 1, 1) := by decide +kernel
theorem dX12_act_232 : decode cX12_act 232 = .ok (.if_icmp .ne 18, 3) := by decide +kernel
theorem dX12_act_235 : decode cX12_act 235 = .ok (.aload_n 0, 1) := by decide +kernel
theorem dX12_act_236 : decode cX12_act 236 = .ok (.getfield 36, 3) := by decide +kernel
theorem dX12_act_239 : decode cX12_act 239 = .ok (.aload_n 0, 1) := by decide +kernel
theorem dX12_act_240 : decode cX12_act 240 = .ok (.getfield 239, 3) := by decide +kernel
theorem dX12_act_243 : decode cX12_act 243 = .ok (.iload 11, 2) := by decide +kernel
theorem dX12_act_245 : decode cX12_act 245 = .ok (.iadd, 1) := by decide +kernel
theorem dX12_act_246 : decode cX12_act 246 = .ok (.baload, 1) := by decide +kernel
theorem dX12_act_247 : decode cX12_act 247 = .ok (.goto 12, 3) := by decide +kernel
theorem dX12_act_250 : decode cX12_act 250 = .ok (.aload_n 0, 1) := by decide +kernel
theorem dX12_act_251 : decode cX12_act 251 = .ok (.getfield 36, 3) := by decide +kernel
theorem dX12_act_254 : decode cX12_act 254 = .ok (.aload_n 0, 1) := by decide +kernel
theorem dX12_act_255 : decode cX12_act 255 = .ok (.getfield 239, 3) := by decide +kernel
theorem dX12_act_258 : decode cX12_act 258 = .ok (.baload, 1) := by decide +kernel
theorem dX12_act_259 : decode cX12_act 259 = .ok (.bastore, 1) := by decide +kernel
theorem dX12_act_260 : decode cX12_act 260 = .ok (.aload_n 0, 1) := by decide +kernel
theorem dX12_act_261 : decode cX12_act 261 = .ok (.dup, 1) := by decide +kernel
theorem dX12_act_262 : decode cX12_act 262 = .ok (.getfield 236, 3) := by decide +kernel
theorem dX12_act_265 : decode cX12_act 265 = .ok (.iconst 1, 1) := by decide +kernel
theorem dX12_act_266 : decode cX12_act 266 = .ok (.iadd, 1) := by decide +kernel
theorem dX12_act_267 : decode cX12_act 267 = .ok (.putfield 236, 3) := by decide +kernel
theorem dX12_act_270 : decode cX12_act 270 = .ok (.iinc 11 1, 3) := by decide +kernel
theorem dX12_act_273 : decode cX12_act 273 = .ok (.goto (-79), 3) := by decide +kernel
theorem dX12_act_276 : decode cX12_act 276 = .ok (.aload_n 0, 1) := by decide +kernel
theorem dX12_act_277 : decode cX12_act 277 = .ok (.dup, 1) := by decide +kernel
theorem dX12_act_278 : decode cX12_act 278 = .ok (.getfield 239, 3) := by decide +kernel
theorem dX12_act_281 : decode cX12_act 281 = .ok (.iload_n 1, 1) := by decide +kernel
theorem dX12_act_282 : decode cX12_act 282 = .ok (.iconst 1, 1) := by decide +kernel
theorem dX12_act_283 : decode cX12_act 283 = .ok (.if_icmp .ne 9, 3) := by decide +kernel
theorem dX12_act_286 : decode cX12_act 286 = .ok (.lload 7, 2) := by decide +kernel
theorem dX12_act_288 : decode cX12_act 288 = .ok (.l2i, 1) := by decide +kernel
theorem dX12_act_289 : decode cX12_act 289 = .ok (.goto 13, 3) := by decide +kernel
theorem dX12_act_292 : decode cX12_act 292 = .ok (.iload_n 1, 1) := by decide +kernel
theorem dX12_act_293 : decode cX12_act 293 = .ok (.iconst 2, 1) := by decide +kernel
theorem dX12_act_294 : decode cX12_act 294 = .ok (.if_icmp .ne 7, 3) := by decide +kernel
theorem dX12_act_297 : decode cX12_act 297 = .ok (.iconst 1, 1) := by decide +kernel
theorem dX12_act_298 : decode cX12_act 298 = .ok (.goto 4, 3) := by decide +kernel
theorem dX12_act_301 : decode cX12_act 301 = .ok (.iconst 0, 1) := by decide +kernel
theorem dX12_act_302 : decode cX12_act 302 = .ok (.iadd, 1) := by decide +kernel
theorem dX12_act_303 : decode cX12_act 303 = .ok (.putfield 239, 3) := by decide +kernel
theorem dX12_act_306 : decode cX12_act 306 = .ok (.aload_n 0, 1) := by decide +kernel
theorem dX12_act_307 : decode cX12_act 307 = .ok (.getfield 180, 3) := by decide +kernel
theorem dX12_act_310 : decode cX12_act 310 = .ok (.ifCond .ne 4, 3) := by decide +kernel
theorem dX12_act_313 : decode cX12_act 313 = .ok (.return_, 1) := by decide +kernel
theorem dX12_act_314 : decode cX12_act 314 = .ok (.aload_n 0, 1) := by decide +kernel
theorem dX12_act_315 : decode cX12_act 315 = .ok (.getfield 61, 3) := by decide +kernel
theorem dX12_act_318 : decode cX12_act 318 = .ok (.iload_n 1, 1) := by decide +kernel
theorem dX12_act_319 : decode cX12_act 319 = .ok (.dup2, 1) := by decide +kernel
theorem dX12_act_320 : decode cX12_act 320 = .ok (.iaload, 1) := by decide +kernel
theorem dX12_act_321 : decode cX12_act 321 = .ok (.iconst 1, 1) := by decide +kernel
theorem dX12_act_322 : decode cX12_act 322 = .ok (.iadd, 1) := by decide +kernel
theorem dX12_act_323 : decode cX12_act 323 = .ok (.iastore, 1) := by decide +kernel
theorem dX12_act_324 : decode cX12_act 324 = .ok (.aload_n 0, 1) := by decide +kernel
theorem dX12_act_325 : decode cX12_act 325 = .ok (.getfield 61, 3) := by decide +kernel
theorem dX12_act_328 : decode cX12_act 328 = .ok (.iconst 5, 1) := by decide +kernel
theorem dX12_act_329 : decode cX12_act 329 = .ok (.dup2, 1) := by decide +kernel
theorem dX12_act_330 : decode cX12_act 330 = .ok (.iaload, 1) := by decide +kernel
theorem dX12_act_331 : decode cX12_act 331 = .ok (.lload 7, 2) := by decide +kernel
theorem dX12_act_333 : decode cX12_act 333 = .ok (.l2i, 1) := by decide +kernel
theorem dX12_act_334 : decode cX12_act 334 = .ok (.iadd, 1) := by decide +kernel
theorem dX12_act_335 : decode cX12_act 335 = .ok (.iastore, 1) := by decide +kernel
theorem dX12_act_336 : decode cX12_act 336 = .ok (.aload_n 0, 1) := by decide +kernel
theorem dX12_act_337 : decode cX12_act 337 = .ok (.getfield 186, 3) := by decide +kernel
theorem dX12_act_340 : decode cX12_act 340 = .ok (.sipush 2000, 3) := by decide +kernel
theorem dX12_act_343 : decode cX12_act 343 = .ok (.if_icmp .ge 66, 3) := by decide +kernel
theorem dX12_act_346 : decode cX12_act 346 = .ok (.aload_n 0, 1) := by decide +kernel
theorem dX12_act_347 : decode cX12_act 347 = .ok (.getfield 64, 3) := by decide +kernel
theorem dX12_act_350 : decode cX12_act 350 = .ok (.aload_n 0, 1) := by decide +kernel
theorem dX12_act_351 : decode cX12_act 351 = .ok (.getfield 186, 3) := by decide +kernel
theorem dX12_act_354 : decode cX12_act 354 = .ok (.iload_n 1, 1) := by decide +kernel
theorem dX12_act_355 : decode cX12_act 355 = .ok (.iastore, 1) := by decide +kernel
theorem dX12_act_356 : decode cX12_act 356 = .ok (.aload_n 0, 1) := by decide +kernel
theorem dX12_act_357 : decode cX12_act 357 = .ok (.getfield 67, 3) := by decide +kernel
theorem dX12_act_360 : decode cX12_act 360 = .ok (.aload_n 0, 1) := by decide +kernel
theorem dX12_act_361 : decode cX12_act 361 = .ok (.getfield 186, 3) := by decide +kernel
theorem dX12_act_364 : decode cX12_act 364 = .ok (.lload 7, 2) := by decide +kernel
theorem dX12_act_366 : decode cX12_act 366 = .ok (.l2i, 1) := by decide +kernel
theorem dX12_act_367 : decode cX12_act 367 = .ok (.iastore, 1) := by decide +kernel
theorem dX12_act_368 : decode cX12_act 368 = .ok (.aload_n 0, 1) := by decide +kernel
theorem dX12_act_369 : decode cX12_act 369 = .ok (.getfield 70, 3) := by decide +kernel
theorem dX12_act_372 : decode cX12_act 372 = .ok (.aload_n 0, 1) := by decide +kernel
theorem dX12_act_373 : decode cX12_act 373 = .ok (.getfield 186, 3) := by decide +kernel
theorem dX12_act_376 : decode cX12_act 376 = .ok (.lload 9, 2) := by decide +kernel
theorem dX12_act_378 : decode cX12_act 378 = .ok (.l2i, 1) := by decide +kernel
theorem dX12_act_379 : decode cX12_act 379 = .ok (.iastore, 1) := by decide +kernel
theorem dX12_act_380 : decode cX12_act 380 = .ok (.aload_n 0, 1) := by decide +kernel
theorem dX12_act_381 : decode cX12_act 381 = .ok (.getfield 73, 3) := by decide +kernel
theorem dX12_act_384 : decode cX12_act 384 = .ok (.aload_n 0, 1) := by decide +kernel
theorem dX12_act_385 : decode cX12_act 385 = .ok (.getfield 186, 3) := by decide +kernel
theorem dX12_act_388 : decode cX12_act 388 = .ok (.iload_n 1, 1) := by decide +kernel
theorem dX12_act_389 : decode cX12_act 389 = .ok (.iconst 3, 1) := by decide +kernel
theorem dX12_act_390 : decode cX12_act 390 = .ok (.if_icmp .ne 7, 3) := by decide +kernel
theorem dX12_act_393 : decode cX12_act 393 = .ok (.iload_n 3, 1) := by decide +kernel
theorem dX12_act_394 : decode cX12_act 394 = .ok (.goto 4, 3) := by decide +kernel
theorem dX12_act_397 : decode cX12_act 397 = .ok (.iconst 0, 1) := by decide +kernel
theorem dX12_act_398 : decode cX12_act 398 = .ok (.iastore, 1) := by decide +kernel
theorem dX12_act_399 : decode cX12_act 399 = .ok (.aload_n 0, 1) := by decide +kernel
theorem dX12_act_400 : decode cX12_act 400 = .ok (.dup, 1) := by decide +kernel
theorem dX12_act_401 : decode cX12_act 401 = .ok (.getfield 186, 3) := by decide +kernel
theorem dX12_act_404 : decode cX12_act 404 = .ok (.iconst 1, 1) := by decide +kernel
theorem dX12_act_405 : decode cX12_act 405 = .ok (.iadd, 1) := by decide +kernel
theorem dX12_act_406 : decode cX12_act 406 = .ok (.putfield 186, 3) := by decide +kernel
theorem dX12_act_409 : decode cX12_act 409 = .ok (.return_, 1) := by decide +kernel
theorem dX12_target_0 : decode cX12_target 0 = .ok (.aload_n 0, 1) := by decide +kernel
theorem dX12_target_1 : decode cX12_target 1 = .ok (.invokevirtual 189, 3) := by decide +kernel
theorem dX12_target_4 : decode cX12_target 4 = .ok (.aload_n 0, 1) := by decide +kernel
theorem dX12_target_5 : decode cX12_target 5 = .ok (.aload_n 0, 1) := by decide +kernel
theorem dX12_target_6 : decode cX12_target 6 = .ok (.getfield 219, 3) := by decide +kernel
theorem dX12_target_9 : decode cX12_target 9 = .ok (.putfield 236, 3) := by decide +kernel
theorem dX12_target_12 : decode cX12_target 12 = .ok (.aload_n 0, 1) := by decide +kernel
theorem dX12_target_13 : decode cX12_target 13 = .ok (.iload_n 2, 1) := by decide +kernel
theorem dX12_target_14 : decode cX12_target 14 = .ok (.putfield 239, 3) := by decide +kernel
theorem dX12_target_17 : decode cX12_target 17 = .ok (.aload_n 0, 1) := by decide +kernel
theorem dX12_target_18 : decode cX12_target 18 = .ok (.iload_n 3, 1) := by decide +kernel
theorem dX12_target_19 : decode cX12_target 19 = .ok (.putfield 242, 3) := by decide +kernel
theorem dX12_target_22 : decode cX12_target 22 = .ok (.aload_n 0, 1) := by decide +kernel
theorem dX12_target_23 : decode cX12_target 23 = .ok (.iload 4, 2) := by decide +kernel
theorem dX12_target_25 : decode cX12_target 25 = .ok (.putfield 245, 3) := by decide +kernel
theorem dX12_target_28 : decode cX12_target 28 = .ok (.aload_n 0, 1) := by decide +kernel
theorem dX12_target_29 : decode cX12_target 29 = .ok (.iload 5, 2) := by decide +kernel
theorem dX12_target_31 : decode cX12_target 31 = .ok (.putfield 248, 3) := by decide +kernel
theorem dX12_target_34 : decode cX12_target 34 = .ok (.aload_n 0, 1) := by decide +kernel
theorem dX12_target_35 : decode cX12_target 35 = .ok (.iload_n 3, 1) := by decide +kernel
theorem dX12_target_36 : decode cX12_target 36 = .ok (.putfield 150, 3) := by decide +kernel
theorem dX12_target_39 : decode cX12_target 39 = .ok (.aload_n 0, 1) := by decide +kernel
theorem dX12_target_40 : decode cX12_target 40 = .ok (.getfield 150, 3) := by decide +kernel
theorem dX12_target_43 : decode cX12_target 43 = .ok (.iload 4, 2) := by decide +kernel
theorem dX12_target_45 : decode cX12_target 45 = .ok (.if_icmp .ge 177, 3) := by decide +kernel
theorem dX12_target_48 : decode cX12_target 48 = .ok (.aload_n 0, 1) := by decide +kernel
theorem dX12_target_49 : decode cX12_target 49 = .ok (.getfield 141, 3) := by decide +kernel
theorem dX12_target_52 : decode cX12_target 52 = .ok (.ifCond .ne 170, 3) := by decide +kernel
theorem dX12_target_55 : decode cX12_target 55 = .ok (.aload_n 0, 1) := by decide +kernel
theorem dX12_target_56 : decode cX12_target 56 = .ok (.getfield 150, 3) := by decide +kernel
theorem dX12_target_59 : decode cX12_target 59 = .ok (.istore 6, 2) := by decide +kernel
theorem dX12_target_61 : decode cX12_target 61 = .ok (.aload_n 0, 1) := by decide +kernel
theorem dX12_target_62 : decode cX12_target 62 = .ok (.getfield 36, 3) := by decide +kernel
theorem dX12_target_65 : decode cX12_target 65 = .ok (.aload_n 0, 1) := by decide +kernel
theorem dX12_target_66 : decode cX12_target 66 = .ok (.getfield 150, 3) := by decide +kernel
theorem dX12_target_69 : decode cX12_target 69 = .ok (.baload, 1) := by decide +kernel
theorem dX12_target_70 : decode cX12_target 70 = .ok (.sipush 255, 3) := by decide +kernel
theorem dX12_target_73 : decode cX12_target 73 = .ok (.iand, 1) := by decide +kernel
theorem dX12_target_74 : decode cX12_target 74 = .ok (.istore 7, 2) := by decide +kernel
theorem dX12_target_76 : decode cX12_target 76 = .ok (.aload_n 0, 1) := by decide +kernel
theorem dX12_target_77 : decode cX12_target 77 = .ok (.dup, 1) := by decide +kernel
theorem dX12_target_78 : decode cX12_target 78 = .ok (.getfield 150, 3) := by decide +kernel
theorem dX12_target_81 : decode cX12_target 81 = .ok (.iconst 1, 1) := by decide +kernel
theorem dX12_target_82 : decode cX12_target 82 = .ok (.iadd, 1) := by decide +kernel
theorem dX12_target_83 : decode cX12_target 83 = .ok (.putfield 150, 3) := by decide +kernel
theorem dX12_target_86 : decode cX12_target 86 = .ok (.aload_n 0, 1) := by decide +kernel
theorem dX12_target_87 : decode cX12_target 87 = .ok (.aload_n 0, 1) := by decide +kernel
theorem dX12_target_88 : decode cX12_target 88 = .ok (.getfield 183, 3) := by decide +kernel
theorem dX12_target_91 : decode cX12_target 91 = .ok (.iload 7, 2) := by decide +kernel
theorem dX12_target_93 : decode cX12_target 93 = .ok (.iconst 0, 1) := by decide +kernel
theorem dX12_target_94 : decode cX12_target 94 = .ok (.invokevirtual 126, 3) := by decide +kernel
theorem dX12_target_97 : decode cX12_target 97 = .ok (.ifCond .le 21, 3) := by decide +kernel
theorem dX12_target_100 : decode cX12_target 100 = .ok (.aload_n 0, 1) := by decide +kernel
theorem dX12_target_101 : decode cX12_target 101 = .ok (.aload_n 0, 1) := by decide +kernel
theorem dX12_target_102 : decode cX12_target 102 = .ok (.getfield 183, 3) := by decide +kernel
theorem dX12_target_105 : decode cX12_target 105 = .ok (.iload 7, 2) := by decide +kernel
theorem dX12_target_107 : decode cX12_target 107 = .ok (.iconst 3, 1) := by decide +kernel
theorem dX12_target_108 : decode cX12_target 108 = .ok (.invokevirtual 126, 3) := by decide +kernel
theorem dX12_target_111 : decode cX12_target 111 = .ok (.ifCond .le 7, 3) := by decide +kernel
theorem dX12_target_114 : decode cX12_target 114 = .ok (.iconst 1, 1) := by decide +kernel
theorem dX12_target_115 : decode cX12_target 115 = .ok (.goto 4, 3) := by decide +kernel
theorem dX12_target_118 : decode cX12_target 118 = .ok (.iconst 0, 1) := by decide +kernel
theorem dX12_target_119 : decode cX12_target 119 = .ok (.istore 8, 2) := by decide +kernel
theorem dX12_target_121 : decode cX12_target 121 = .ok (.aload_n 0, 1) := by decide +kernel
theorem dX12_target_122 : decode cX12_target 122 = .ok (.getfield 61, 3) := by decide +kernel
theorem dX12_target_125 : decode cX12_target 125 = .ok (.iconst 4, 1) := by decide +kernel
theorem dX12_target_126 : decode cX12_target 126 = .ok (.dup2, 1) := by decide +kernel
theorem dX12_target_127 : decode cX12_target 127 = .ok (.iaload, 1) := by decide +kernel
theorem dX12_target_128 : decode cX12_target 128 = .ok (.aload_n 0, 1) := by decide +kernel
theorem dX12_target_129 : decode cX12_target 129 = .ok (.getfield 180, 3) := by decide +kernel
theorem dX12_target_132 : decode cX12_target 132 = .ok (.ifCond .eq 12, 3) := by decide +kernel
theorem dX12_target_135 : decode cX12_target 135 = .ok (.iload 8, 2) := by decide +kernel
theorem dX12_target_137 : decode cX12_target 137 = .ok (.ifCond .eq 7, 3) := by decide +kernel
theorem dX12_target_140 : decode cX12_target 140 = .ok (.iconst 1, 1) := by decide +kernel
theorem dX12_target_141 : decode cX12_target 141 = .ok (.goto 4, 3) := by decide +kernel
theorem dX12_target_144 : decode cX12_target 144 = .ok (.iconst 0, 1) := by decide +kernel
theorem dX12_target_145 : decode cX12_target 145 = .ok (.iadd, 1) := by decide +kernel
theorem dX12_target_146 : decode cX12_target 146 = .ok (.iastore, 1) := by decide +kernel
theorem dX12_target_147 : decode cX12_target 147 = .ok (.iconst 0, 1) := by decide +kernel
theorem dX12_target_148 : decode cX12_target 148 = .ok (.istore 9, 2) := by decide +kernel
theorem dX12_target_150 : decode cX12_target 150 = .ok (.iload 9, 2) := by decide +kernel
theorem dX12_target_152 : decode cX12_target 152 = .ok (.bipush 6, 2) := by decide +kernel
theorem dX12_target_154 : decode cX12_target 154 = .ok (.if_icmp .ge 65, 3) := by decide +kernel
theorem dX12_target_157 : decode cX12_target 157 = .ok (.aload_n 0, 1) := by decide +kernel
theorem dX12_target_158 : decode cX12_target 158 = .ok (.getfield 141, 3) := by decide +kernel
theorem dX12_target_161 : decode cX12_target 161 = .ok (.ifCond .ne 58, 3) := by decide +kernel
theorem dX12_target_164 : decode cX12_target 164 = .ok (.aload_n 0, 1) := by decide +kernel
theorem dX12_target_165 : decode cX12_target 165 = .ok (.aload_n 0, 1) := by decide +kernel
theorem dX12_target_166 : decode cX12_target 166 = .ok (.aload_n 0, 1) := by decide +kernel
theorem dX12_target_167 : decode cX12_target 167 = .ok (.getfield 183, 3) := by decide +kernel
theorem dX12_target_170 : decode cX12_target 170 = .ok (.iload 7, 2) := by decide +kernel
theorem dX12_target_172 : decode cX12_target 172 = .ok (.iload 9, 2) := by decide +kernel
theorem dX12_target_174 : decode cX12_target 174 = .ok (.invokevirtual 126, 3) := by decide +kernel
theorem dX12_target_177 : decode cX12_target 177 = .ok (.aload_n 0, 1) := by decide +kernel
theorem dX12_target_178 : decode cX12_target 178 = .ok (.aload_n 0, 1) := by decide +kernel
theorem dX12_target_179 : decode cX12_target 179 = .ok (.getfield 183, 3) := by decide +kernel
theorem dX12_target_182 : decode cX12_target 182 = .ok (.iload 7, 2) := by decide +kernel
theorem dX12_target_184 : decode cX12_target 184 = .ok (.iload 9, 2) := by decide +kernel
theorem dX12_target_186 : decode cX12_target 186 = .ok (.iconst 1, 1) := by decide +kernel
theorem dX12_target_187 : decode cX12_target 187 = .ok (.iadd, 1) := by decide +kernel
theorem dX12_target_188 : decode cX12_target 188 = .ok (.invokevirtual 126, 3) := by decide +kernel
theorem dX12_target_191 : decode cX12_target 191 = .ok (.aload_n 0, 1) := by decide +kernel
theorem dX12_target_192 : decode cX12_target 192 = .ok (.aload_n 0, 1) := by decide +kernel
theorem dX12_target_193 : decode cX12_target 193 = .ok (.getfield 183, 3) := by decide +kernel
theorem dX12_target_196 : decode cX12_target 196 = .ok (.iload 7, 2) := by decide +kernel
theorem dX12_target_198 : decode cX12_target 198 = .ok (.iload 9, 2) := by decide +kernel
theorem dX12_target_200 : decode cX12_target 200 = .ok (.iconst 2, 1) := by decide +kernel
theorem dX12_target_201 : decode cX12_target 201 = .ok (.iadd, 1) := by decide +kernel
theorem dX12_target_202 : decode cX12_target 202 = .ok (.invokevirtual 126, 3) := by decide +kernel
theorem dX12_target_205 : decode cX12_target 205 = .ok (.iload_n 1, 1) := by decide +kernel
theorem dX12_target_206 : decode cX12_target 206 = .ok (.iload 6, 2) := by decide +kernel
theorem dX12_target_208 : decode cX12_target 208 = .ok (.iload 4, 2) := by decide +kernel
theorem dX12_target_210 : decode cX12_target 210 = .ok (.invokevirtual 251, 3) := by decide +kernel
theorem dX12_target_213 : decode cX12_target 213 = .ok (.iinc 9 3, 3) := by decide +kernel
theorem dX12_target_216 : decode cX12_target 216 = .ok (.goto (-66), 3) := by decide +kernel
theorem dX12_target_219 : decode cX12_target 219 = .ok (.goto (-180), 3) := by decide +kernel
theorem dX12_target_222 : decode cX12_target 222 = .ok (.aload_n 0, 1) := by decide +kernel
