theorem dX13_newSegment_0 : decode cX13_newSegment 0 = .ok (.aload_n 0, 1) := by decide +kernel
theorem dX13_newSegment_1 : decode cX13_newSegment 1 = .ok (.getfield 313, 3) := by decide +kernel
theorem dX13_newSegment_4 : decode cX13_newSegment 4 = .ok (.istore_n 3, 1) := by decide +kernel
theorem dX13_newSegment_5 : decode cX13_newSegment 5 = .ok (.aload_n 0, 1) := by decide +kernel
theorem dX13_newSegment_6 : decode cX13_newSegment 6 = .ok (.getfield 67, 3) := by decide +kernel
theorem dX13_newSegment_9 : decode cX13_newSegment 9 = .ok (.iload_n 3, 1) := by decide +kernel
theorem dX13_newSegment_10 : decode cX13_newSegment 10 = .ok (.iconst (-1), 1) := by decide +kernel
theorem dX13_newSegment_11 : decode cX13_newSegment 11 = .ok (.iastore, 1) := by decide +kernel
theorem dX13_newSegment_12 : decode cX13_newSegment 12 = .ok (.aload_n 0, 1) := by decide +kernel
theorem dX13_newSegment_13 : decode cX13_newSegment 13 = .ok (.getfield 70, 3) := by decide +kernel
theorem dX13_newSegment_16 : decode cX13_newSegment 16 = .ok (.iload_n 3, 1) := by decide +kernel
theorem dX13_newSegment_17 : decode cX13_newSegment 17 = .ok (.iconst (-1), 1) := by decide +kernel
theorem dX13_newSegment_18 : decode cX13_newSegment 18 = .ok (.iastore, 1) := by decide +kernel
theorem dX13_newSegment_19 : decode cX13_newSegment 19 = .ok (.aload_n 0, 1) := by decide +kernel
theorem dX13_newSegment_20 : decode cX13_newSegment 20 = .ok (.getfield 73, 3) := by decide +kernel
theorem dX13_newSegment_23 : decode cX13_newSegment 23 = .ok (.iload_n 3, 1) := by decide +kernel
theorem dX13_newSegment_24 : decode cX13_newSegment 24 = .ok (.iconst (-1), 1) := by decide +kernel
theorem dX13_newSegment_25 : decode cX13_newSegment 25 = .ok (.iastore, 1) := by decide +kernel
theorem dX13_newSegment_26 : decode cX13_newSegment 26 = .ok (.aload_n 0, 1) := by decide +kernel
theorem dX13_newSegment_27 : decode cX13_newSegment 27 = .ok (.getfield 76, 3) := by decide +kernel
theorem dX13_newSegment_30 : decode cX13_newSegment 30 = .ok (.iload_n 3, 1) := by decide +kernel
theorem dX13_newSegment_31 : decode cX13_newSegment 31 = .ok (.iconst 0, 1) := by decide +kernel
theorem dX13_newSegment_32 : decode cX13_newSegment 32 = .ok (.iastore, 1) := by decide +kernel
theorem dX13_newSegment_33 : decode cX13_newSegment 33 = .ok (.aload_n 0, 1) := by decide +kernel
theorem dX13_newSegment_34 : decode cX13_newSegment 34 = .ok (.getfield 79, 3) := by decide +kernel
theorem dX13_newSegment_37 : decode cX13_newSegment 37 = .ok (.iload_n 3, 1) := by decide +kernel
theorem dX13_newSegment_38 : decode cX13_newSegment 38 = .ok (.iload_n 1, 1) := by decide +kernel
theorem dX13_newSegment_39 : decode cX13_newSegment 39 = .ok (.iastore, 1) := by decide +kernel
theorem dX13_newSegment_40 : decode cX13_newSegment 40 = .ok (.aload_n 0, 1) := by decide +kernel
theorem dX13_newSegment_41 : decode cX13_newSegment 41 = .ok (.getfield 82, 3) := by decide +kernel
theorem dX13_newSegment_44 : decode cX13_newSegment 44 = .ok (.iload_n 3, 1) := by decide +kernel
theorem dX13_newSegment_45 : decode cX13_newSegment 45 = .ok (.iload_n 2, 1) := by decide +kernel
theorem dX13_newSegment_46 : decode cX13_newSegment 46 = .ok (.bastore, 1) := by decide +kernel
theorem dX13_newSegment_47 : decode cX13_newSegment 47 = .ok (.aload_n 0, 1) := by decide +kernel
theorem dX13_newSegment_48 : decode cX13_newSegment 48 = .ok (.getfield 57, 3) := by decide +kernel
theorem dX13_newSegment_51 : decode cX13_newSegment 51 = .ok (.iload_n 1, 1) := by decide +kernel
theorem dX13_newSegment_52 : decode cX13_newSegment 52 = .ok (.iaload, 1) := by decide +kernel
theorem dX13_newSegment_53 : decode cX13_newSegment 53 = .ok (.iconst (-1), 1) := by decide +kernel
theorem dX13_newSegment_54 : decode cX13_newSegment 54 = .ok (.if_icmp .ne 13, 3) := by decide +kernel
theorem dX13_newSegment_57 : decode cX13_newSegment 57 = .ok (.aload_n 0, 1) := by decide +kernel
theorem dX13_newSegment_58 : decode cX13_newSegment 58 = .ok (.getfield 57, 3) := by decide +kernel
theorem dX13_newSegment_61 : decode cX13_newSegment 61 = .ok (.iload_n 1, 1) := by decide +kernel
theorem dX13_newSegment_62 : decode cX13_newSegment 62 = .ok (.iload_n 3, 1) := by decide +kernel
theorem dX13_newSegment_63 : decode cX13_newSegment 63 = .ok (.iastore, 1) := by decide +kernel
theorem dX13_newSegment_64 : decode cX13_newSegment 64 = .ok (.goto 15, 3) := by decide +kernel
theorem dX13_newSegment_67 : decode cX13_newSegment 67 = .ok (.aload_n 0, 1) := by decide +kernel
theorem dX13_newSegment_68 : decode cX13_newSegment 68 = .ok (.getfield 67, 3) := by decide +kernel
theorem dX13_newSegment_71 : decode cX13_newSegment 71 = .ok (.aload_n 0, 1) := by decide +kernel
theorem dX13_newSegment_72 : decode cX13_newSegment 72 = .ok (.getfield 60, 3) := by decide +kernel
theorem dX13_newSegment_75 : decode cX13_newSegment 75 = .ok (.iload_n 1, 1) := by decide +kernel
theorem dX13_newSegment_76 : decode cX13_newSegment 76 = .ok (.iaload, 1) := by decide +kernel
theorem dX13_newSegment_77 : decode cX13_newSegment 77 = .ok (.iload_n 3, 1) := by decide +kernel
theorem dX13_newSegment_78 : decode cX13_newSegment 78 = .ok (.iastore, 1) := by decide +kernel
theorem dX13_newSegment_79 : decode cX13_newSegment 79 = .ok (.aload_n 0, 1) := by decide +kernel
theorem dX13_newSegment_80 : decode cX13_newSegment 80 = .ok (.getfield 60, 3) := by decide +kernel
theorem dX13_newSegment_83 : decode cX13_newSegment 83 = .ok (.iload_n 1, 1) := by decide +kernel
theorem dX13_newSegment_84 : decode cX13_newSegment 84 = .ok (.iload_n 3, 1) := by decide +kernel
theorem dX13_newSegment_85 : decode cX13_newSegment 85 = .ok (.iastore, 1) := by decide +kernel
theorem dX13_newSegment_86 : decode cX13_newSegment 86 = .ok (.aload_n 0, 1) := by decide +kernel
theorem dX13_newSegment_87 : decode cX13_newSegment 87 = .ok (.dup, 1) := by decide +kernel
theorem dX13_newSegment_88 : decode cX13_newSegment 88 = .ok (.getfield 313, 3) := by decide +kernel
theorem dX13_newSegment_91 : decode cX13_newSegment 91 = .ok (.iconst 1, 1) := by decide +kernel
theorem dX13_newSegment_92 : decode cX13_newSegment 92 = .ok (.iadd, 1) := by decide +kernel
theorem dX13_newSegment_93 : decode cX13_newSegment 93 = .ok (.putfield 313, 3) := by decide +kernel
theorem dX13_newSegment_96 : decode cX13_newSegment 96 = .ok (.iload_n 3, 1) := by decide +kernel
theorem dX13_newSegment_97 : decode cX13_newSegment 97 = .ok (.ireturn, 1) := by decide +kernel
theorem dX13_newSelector_0 : decode cX13_newSelector 0 = .ok (.aload_n 0, 1) := by decide +kernel
theorem dX13_newSelector_1 : decode cX13_newSelector 1 = .ok (.getfield 316, 3) := by decide +kernel
theorem dX13_newSelector_4 : decode cX13_newSelector 4 = .ok (.istore 7, 2) := by decide +kernel
theorem dX13_newSelector_6 : decode cX13_newSelector 6 = .ok (.aload_n 0, 1) := by decide +kernel
theorem dX13_newSelector_7 : decode cX13_newSelector 7 = .ok (.getfield 85, 3) := by decide +kernel
theorem dX13_newSelector_10 : decode cX13_newSelector 10 = .ok (.iload 7, 2) := by decide +kernel
theorem dX13_newSelector_12 : decode cX13_newSelector 12 = .ok (.iload_n 2, 1) := by decide +kernel
theorem dX13_newSelector_13 : decode cX13_newSelector 13 = .ok (.iastore, 1) := by decide +kernel
theorem dX13_newSelector_14 : decode cX13_newSelector 14 = .ok (.aload_n 0, 1) := by decide +kernel
theorem dX13_newSelector_15 : decode cX13_newSelector 15 = .ok (.getfield 91, 3) := by decide +kernel
theorem dX13_newSelector_18 : decode cX13_newSelector 18 = .ok (.iload 7, 2) := by decide +kernel
theorem dX13_newSelector_20 : decode cX13_newSelector 20 = .ok (.iload_n 3, 1) := by decide +kernel
theorem dX13_newSelector_21 : decode cX13_newSelector 21 = .ok (.iastore, 1) := by decide +kernel
theorem dX13_newSelector_22 : decode cX13_newSelector 22 = .ok (.aload_n 0, 1) := by decide +kernel
theorem dX13_newSelector_23 : decode cX13_newSelector 23 = .ok (.getfield 94, 3) := by decide +kernel
theorem dX13_newSelector_26 : decode cX13_newSelector 26 = .ok (.iload 7, 2) := by decide +kernel
theorem dX13_newSelector_28 : decode cX13_newSelector 28 = .ok (.iload 4, 2) := by decide +kernel
theorem dX13_newSelector_30 : decode cX13_newSelector 30 = .ok (.iastore, 1) := by decide +kernel
theorem dX13_newSelector_31 : decode cX13_newSelector 31 = .ok (.aload_n 0, 1) := by decide +kernel
theorem dX13_newSelector_32 : decode cX13_newSelector 32 = .ok (.getfield 97, 3) := by decide +kernel
theorem dX13_newSelector_35 : decode cX13_newSelector 35 = .ok (.iload 7, 2) := by decide +kernel
theorem dX13_newSelector_37 : decode cX13_newSelector 37 = .ok (.iload 5, 2) := by decide +kernel
theorem dX13_newSelector_39 : decode cX13_newSelector 39 = .ok (.iastore, 1) := by decide +kernel
theorem dX13_newSelector_40 : decode cX13_newSelector 40 = .ok (.aload_n 0, 1) := by decide +kernel
theorem dX13_newSelector_41 : decode cX13_newSelector 41 = .ok (.getfield 100, 3) := by decide +kernel
theorem dX13_newSelector_44 : decode cX13_newSelector 44 = .ok (.iload 7, 2) := by decide +kernel
theorem dX13_newSelector_46 : decode cX13_newSelector 46 = .ok (.iload 6, 2) := by decide +kernel
theorem dX13_newSelector_48 : decode cX13_newSelector 48 = .ok (.iastore, 1) := by decide +kernel
theorem dX13_newSelector_49 : decode cX13_newSelector 49 = .ok (.aload_n 0, 1) := by decide +kernel
theorem dX13_newSelector_50 : decode cX13_newSelector 50 = .ok (.getfield 88, 3) := by decide +kernel
theorem dX13_newSelector_53 : decode cX13_newSelector 53 = .ok (.iload 7, 2) := by decide +kernel
theorem dX13_newSelector_55 : decode cX13_newSelector 55 = .ok (.iconst (-1), 1) := by decide +kernel
theorem dX13_newSelector_56 : decode cX13_newSelector 56 = .ok (.iastore, 1) := by decide +kernel
theorem dX13_newSelector_57 : decode cX13_newSelector 57 = .ok (.aload_n 0, 1) := by decide +kernel
theorem dX13_newSelector_58 : decode cX13_newSelector 58 = .ok (.getfield 70, 3) := by decide +kernel
theorem dX13_newSelector_61 : decode cX13_newSelector 61 = .ok (.iload_n 1, 1) := by decide +kernel
theorem dX13_newSelector_62 : decode cX13_newSelector 62 = .ok (.iaload, 1) := by decide +kernel
theorem dX13_newSelector_63 : decode cX13_newSelector 63 = .ok (.iconst (-1), 1) := by decide +kernel
theorem dX13_newSelector_64 : decode cX13_newSelector 64 = .ok (.if_icmp .ne 14, 3) := by decide +kernel
theorem dX13_newSelector_67 : decode cX13_newSelector 67 = .ok (.aload_n 0, 1) := by decide +kernel
theorem dX13_newSelector_68 : decode cX13_newSelector 68 = .ok (.getfield 70, 3) := by decide +kernel
theorem dX13_newSelector_71 : decode cX13_newSelector 71 = .ok (.iload_n 1, 1) := by decide +kernel
theorem dX13_newSelector_72 : decode cX13_newSelector 72 = .ok (.iload 7, 2) := by decide +kernel
theorem dX13_newSelector_74 : decode cX13_newSelector 74 = .ok (.iastore, 1) := by decide +kernel
theorem dX13_newSelector_75 : decode cX13_newSelector 75 = .ok (.goto 16, 3) := by decide +kernel
theorem dX13_newSelector_78 : decode cX13_newSelector 78 = .ok (.aload_n 0, 1) := by decide +kernel
theorem dX13_newSelector_79 : decode cX13_newSelector 79 = .ok (.getfield 88, 3) := by decide +kernel
theorem dX13_newSelector_82 : decode cX13_newSelector 82 = .ok (.aload_n 0, 1) := by decide +kernel
theorem dX13_newSelector_83 : decode cX13_newSelector 83 = .ok (.getfield 73, 3) := by decide +kernel
theorem dX13_newSelector_86 : decode cX13_newSelector 86 = .ok (.iload_n 1, 1) := by decide +kernel
theorem dX13_newSelector_87 : decode cX13_newSelector 87 = .ok (.iaload, 1) := by decide +kernel
theorem dX13_newSelector_88 : decode cX13_newSelector 88 = .ok (.iload 7, 2) := by decide +kernel
theorem dX13_newSelector_90 : decode cX13_newSelector 90 = .ok (.iastore, 1) := by decide +kernel
theorem dX13_newSelector_91 : decode cX13_newSelector 91 = .ok (.aload_n 0, 1) := by decide +kernel
theorem dX13_newSelector_92 : decode cX13_newSelector 92 = .ok (.getfield 73, 3) := by decide +kernel
theorem dX13_newSelector_95 : decode cX13_newSelector 95 = .ok (.iload_n 1, 1) := by decide +kernel
theorem dX13_newSelector_96 : decode cX13_newSelector 96 = .ok (.iload 7, 2) := by decide +kernel
theorem dX13_newSelector_98 : decode cX13_newSelector 98 = .ok (.iastore, 1) := by decide +kernel
theorem dX13_newSelector_99 : decode cX13_newSelector 99 = .ok (.aload_n 0, 1) := by decide +kernel
theorem dX13_newSelector_100 : decode cX13_newSelector 100 = .ok (.getfield 76, 3) := by decide +kernel
theorem dX13_newSelector_103 : decode cX13_newSelector 103 = .ok (.iload_n 1, 1) := by decide +kernel
theorem dX13_newSelector_104 : decode cX13_newSelector 104 = .ok (.dup2, 1) := by decide +kernel
theorem dX13_newSelector_105 : decode cX13_newSelector 105 = .ok (.iaload, 1) := by decide +kernel
theorem dX13_newSelector_106 : decode cX13_newSelector 106 = .ok (.iconst 1, 1) := by decide +kernel
theorem dX13_newSelector_107 : decode cX13_newSelector 107 = .ok (.iadd, 1) := by decide +kernel
theorem dX13_newSelector_108 : decode cX13_newSelector 108 = .ok (.iastore, 1) := by decide +kernel
theorem dX13_newSelector_109 : decode cX13_newSelector 109 = .ok (.aload_n 0, 1) := by decide +kernel
theorem dX13_newSelector_110 : decode cX13_newSelector 110 = .ok (.dup, 1) := by decide +kernel
theorem dX13_newSelector_111 : decode cX13_newSelector 111 = .ok (.getfield 316, 3) := by decide +kernel
theorem dX13_newSelector_114 : decode cX13_newSelector 114 = .ok (.iconst 1, 1) := by decide +kernel
theorem dX13_newSelector_115 : decode cX13_newSelector 115 = .ok (.iadd, 1) := by decide +kernel
theorem dX13_newSelector_116 : decode cX13_newSelector 116 = .ok (.putfield 316, 3) := by decide +kernel
theorem dX13_newSelector_119 : decode cX13_newSelector 119 = .ok (.iload 7, 2) := by decide +kernel
theorem dX13_newSelector_121 : decode cX13_newSelector 121 = .ok (.ireturn, 1) := by decide +kernel
theorem dX13_emit_0 : decode cX13_emit 0 = .ok (.aload_n 0, 1) := by decide +kernel
theorem dX13_emit_1 : decode cX13_emit 1 = .ok (.getfield 319, 3) := by decide +kernel
theorem dX13_emit_4 : decode cX13_emit 4 = .ok (.istore 5, 2) := by decide +kernel
theorem dX13_emit_6 : decode cX13_emit 6 = .ok (.aload_n 0, 1) := by decide +kernel
theorem dX13_emit_7 : decode cX13_emit 7 = .ok (.getfield 109, 3) := by decide +kernel
theorem dX13_emit_10 : decode cX13_emit 10 = .ok (.iload 5, 2) := by decide +kernel
theorem dX13_emit_12 : decode cX13_emit 12 = .ok (.iload_n 2, 1) := by decide +kernel
theorem dX13_emit_13 : decode cX13_emit 13 = .ok (.iastore, 1) := by decide +kernel
theorem dX13_emit_14 : decode cX13_emit 14 = .ok (.aload_n 0, 1) := by decide +kernel
theorem dX13_emit_15 : decode cX13_emit 15 = .ok (.getfield 112, 3) := by decide +kernel
theorem dX13_emit_18 : decode cX13_emit 18 = .ok (.iload 5, 2) := by decide +kernel
theorem dX13_emit_20 : decode cX13_emit 20 = .ok (.iload_n 3, 1) := by decide +kernel
theorem dX13_emit_21 : decode cX13_emit 21 = .ok (.iastore, 1) := by decide +kernel
theorem dX13_emit_22 : decode cX13_emit 22 = .ok (.aload_n 0, 1) := by decide +kernel
theorem dX13_emit_23 : decode cX13_emit 23 = .ok (.getfield 115, 3) := by decide +kernel
theorem dX13_emit_26 : decode cX13_emit 26 = .ok (.iload 5, 2) := by decide +kernel
theorem dX13_emit_28 : decode cX13_emit 28 = .ok (.iload 4, 2) := by decide +kernel
theorem dX13_emit_30 : decode cX13_emit 30 = .ok (.iastore, 1) := by decide +kernel
theorem dX13_emit_31 : decode cX13_emit 31 = .ok (.aload_n 0, 1) := by decide +kernel
theorem dX13_emit_32 : decode cX13_emit 32 = .ok (.getfield 118, 3) := by decide +kernel
theorem dX13_emit_35 : decode cX13_emit 35 = .ok (.iload 5, 2) := by decide +kernel
theorem dX13_emit_37 : decode cX13_emit 37 = .ok (.iconst (-1), 1) := by decide +kernel
theorem dX13_emit_38 : decode cX13_emit 38 = .ok (.iastore, 1) := by decide +kernel
theorem dX13_emit_39 : decode cX13_emit 39 = .ok (.aload_n 0, 1) := by decide +kernel
theorem dX13_emit_40 : decode cX13_emit 40 = .ok (.getfield 103, 3) := by decide +kernel
theorem dX13_emit_43 : decode cX13_emit 43 = .ok (.iload_n 1, 1) := by decide +kernel
theorem dX13_emit_44 : decode cX13_emit 44 = .ok (.iaload, 1) := by decide +kernel
theorem dX13_emit_45 : decode cX13_emit 45 = .ok (.iconst (-1), 1) := by decide +kernel
theorem dX13_emit_46 : decode cX13_emit 46 = .ok (.if_icmp .ne 14, 3) := by decide +kernel
theorem dX13_emit_49 : decode cX13_emit 49 = .ok (.aload_n 0, 1) := by decide +kernel
theorem dX13_emit_50 : decode cX13_emit 50 = .ok (.getfield 103, 3) := by decide +kernel
theorem dX13_emit_53 : decode cX13_emit 53 = .ok (.iload_n 1, 1) := by decide +kernel
theorem dX13_emit_54 : decode cX13_emit 54 = .ok (.iload 5, 2) := by decide +kernel
theorem dX13_emit_56 : decode cX13_emit 56 = .ok (.iastore, 1) := by decide +kernel
theorem dX13_emit_57 : decode cX13_emit 57 = .ok (.goto 16, 3) := by decide +kernel
theorem dX13_emit_60 : decode cX13_emit 60 = .ok (.aload_n 0, 1) := by decide +kernel
theorem dX13_emit_61 : decode cX13_emit 61 = .ok (.getfield 118, 3) := by decide +kernel
theorem dX13_emit_64 : decode cX13_emit 64 = .ok (.aload_n 0, 1) := by decide +kernel
theorem dX13_emit_65 : decode cX13_emit 65 = .ok (.getfield 106, 3) := by decide +kernel
theorem dX13_emit_68 : decode cX13_emit 68 = .ok (.iload_n 1, 1) := by decide +kernel
theorem dX13_emit_69 : decode cX13_emit 69 = .ok (.iaload, 1) := by decide +kernel
theorem dX13_emit_70 : decode cX13_emit 70 = .ok (.iload 5, 2) := by decide +kernel
theorem dX13_emit_72 : decode cX13_emit 72 = .ok (.iastore, 1) := by decide +kernel
theorem dX13_emit_73 : decode cX13_emit 73 = .ok (.aload_n 0, 1) := by decide +kernel
theorem dX13_emit_74 : decode cX13_emit 74 = .ok (.getfield 106, 3) := by decide +kernel
theorem dX13_emit_77 : decode cX13_emit 77 = .ok (.iload_n 1, 1) := by decide +kernel
theorem dX13_emit_78 : decode cX13_emit 78 = .ok (.iload 5, 2) := by decide +kernel
theorem dX13_emit_80 : decode cX13_emit 80 = .ok (.iastore, 1) := by decide +kernel
theorem dX13_emit_81 : decode cX13_emit 81 = .ok (.aload_n 0, 1) := by decide +kernel
theorem dX13_emit_82 : decode cX13_emit 82 = .ok (.dup, 1) := by decide +kernel
theorem dX13_emit_83 : decode cX13_emit 83 = .ok (.getfield 319, 3) := by decide +kernel
theorem dX13_emit_86 : decode cX13_emit 86 = .ok (.iconst 1, 1) := by decide +kernel
theorem dX13_emit_87 : decode cX13_emit 87 = .ok (.iadd, 1) := by decide +kernel
theorem dX13_emit_88 : decode cX13_emit 88 = .ok (.putfield 319, 3) := by decide +kernel
theorem dX13_emit_91 : decode cX13_emit 91 = .ok (.return_, 1) := by decide +kernel
theorem dX13_readMore_0 : decode cX13_readMore 0 = .ok (.aload_n 0, 1) := by decide +kernel
theorem dX13_readMore_1 : decode cX13_readMore 1 = .ok (.aload_n 0, 1) := by decide +kernel
theorem dX13_readMore_2 : decode cX13_readMore 2 = .ok (.getfield 202, 3) := by decide +kernel
theorem dX13_readMore_5 : decode cX13_readMore 5 = .ok (.invokevirtual 212, 3) := by decide +kernel
theorem dX13_readMore_8 : decode cX13_readMore 8 = .ok (.istore_n 2, 1) := by decide +kernel
theorem dX13_readMore_9 : decode cX13_readMore 9 = .ok (.iload_n 2, 1) := by decide +kernel
theorem dX13_readMore_10 : decode cX13_readMore 10 = .ok (.bipush 46, 2) := by decide +kernel
theorem dX13_readMore_12 : decode cX13_readMore 12 = .ok (.if_icmp .eq 10, 3) := by decide +kernel
theorem dX13_readMore_15 : decode cX13_readMore 15 = .ok (.iload_n 2, 1) := by decide +kernel
theorem dX13_readMore_16 : decode cX13_readMore 16 = .ok (.bipush 91, 2) := by decide +kernel
theorem dX13_readMore_18 : decode cX13_readMore 18 = .ok (.if_icmp .eq 4, 3) := by decide +kernel
theorem dX13_readMore_21 : decode cX13_readMore 21 = .ok (.return_, 1) := by decide +kernel
theorem dX13_readMore_22 : decode cX13_readMore 22 = .ok (.iload_n 2, 1) := by decide +kernel
theorem dX13_readMore_23 : decode cX13_readMore 23 = .ok (.bipush 46, 2) := by decide +kernel
theorem dX13_readMore_25 : decode cX13_readMore 25 = .ok (.if_icmp .ne 22, 3) := by decide +kernel
theorem dX13_readMore_28 : decode cX13_readMore 28 = .ok (.aload_n 0, 1) := by decide +kernel
theorem dX13_readMore_29 : decode cX13_readMore 29 = .ok (.aload_n 0, 1) := by decide +kernel
theorem dX13_readMore_30 : decode cX13_readMore 30 = .ok (.getfield 202, 3) := by decide +kernel
theorem dX13_readMore_33 : decode cX13_readMore 33 = .ok (.iconst 1, 1) := by decide +kernel
theorem dX13_readMore_34 : decode cX13_readMore 34 = .ok (.iadd, 1) := by decide +kernel
theorem dX13_readMore_35 : decode cX13_readMore 35 = .ok (.invokevirtual 212, 3) := by decide +kernel
theorem dX13_readMore_38 : decode cX13_readMore 38 = .ok (.bipush 46, 2) := by decide +kernel
theorem dX13_readMore_40 : decode cX13_readMore 40 = .ok (.if_icmp .ne 7, 3) := by decide +kernel
theorem dX13_readMore_43 : decode cX13_readMore 43 = .ok (.iconst 1, 1) := by decide +kernel
theorem dX13_readMore_44 : decode cX13_readMore 44 = .ok (.goto 4, 3) := by decide +kernel
theorem dX13_readMore_47 : decode cX13_readMore 47 = .ok (.iconst 0, 1) := by decide +kernel
theorem dX13_readMore_48 : decode cX13_readMore 48 = .ok (.istore_n 3, 1) := by decide +kernel
theorem dX13_readMore_49 : decode cX13_readMore 49 = .ok (.aload_n 0, 1) := by decide +kernel
theorem dX13_readMore_50 : decode cX13_readMore 50 = .ok (.dup, 1) := by decide +kernel
theorem dX13_readMore_51 : decode cX13_readMore 51 = .ok (.getfield 202, 3) := by decide +kernel
theorem dX13_readMore_54 : decode cX13_readMore 54 = .ok (.iload_n 3, 1) := by decide +kernel
theorem dX13_readMore_55 : decode cX13_readMore 55 = .ok (.ifCond .eq 7, 3) := by decide +kernel
theorem dX13_readMore_58 : decode cX13_readMore 58 = .ok (.iconst 2, 1) := by decide +kernel
theorem dX13_readMore_59 : decode cX13_readMore 59 = .ok (.goto 14, 3) := by decide +kernel
theorem dX13_readMore_62 : decode cX13_readMore 62 = .ok (.iload_n 2, 1) := by decide +kernel
theorem dX13_readMore_63 : decode cX13_readMore 63 = .ok (.bipush 46, 2) := by decide +kernel
theorem dX13_readMore_65 : decode cX13_readMore 65 = .ok (.if_icmp .ne 7, 3) := by decide +kernel
theorem dX13_readMore_68 : decode cX13_readMore 68 = .ok (.iconst 1, 1) := by decide +kernel
theorem dX13_readMore_69 : decode cX13_readMore 69 = .ok (.goto 4, 3) := by decide +kernel
theorem dX13_readMore_72 : decode cX13_readMore 72 = .ok (.iconst 0, 1) := by decide +kernel
theorem dX13_readMore_73 : decode cX13_readMore 73 = .ok (.iadd, 1) := by decide +kernel
theorem dX13_readMore_74 : decode cX13_readMore 74 = .ok (.putfield 202, 3) := by decide +kernel
theorem dX13_readMore_77 : decode cX13_readMore 77 = .ok (.aload_n 0, 1) := by decide +kernel
theorem dX13_readMore_78 : decode cX13_readMore 78 = .ok (.aload_n 0, 1) := by decide +kernel
theorem dX13_readMore_79 : decode cX13_readMore 79 = .ok (.getfield 202, 3) := by decide +kernel
theorem dX13_readMore_82 : decode cX13_readMore 82 = .ok (.invokevirtual 212, 3) := by decide +kernel
theorem dX13_readMore_85 : decode cX13_readMore 85 = .ok (.istore 4, 2) := by decide +kernel
theorem dX13_readMore_87 : decode cX13_readMore 87 = .ok (.iload 4, 2) := by decide +kernel
theorem dX13_readMore_89 : decode cX13_readMore 89 = .ok (.bipush 91, 2) := by decide +kernel
theorem dX13_readMore_91 : decode cX13_readMore 91 = .ok (.if_icmp .ne 36, 3) := by decide +kernel
theorem dX13_readMore_94 : decode cX13_readMore 94 = .ok (.iload_n 3, 1) := by decide +kernel
theorem dX13_readMore_95 : decode cX13_readMore 95 = .ok (.ifCond .ne 9, 3) := by decide +kernel
theorem dX13_readMore_98 : decode cX13_readMore 98 = .ok (.iload_n 2, 1) := by decide +kernel
theorem dX13_readMore_99 : decode cX13_readMore 99 = .ok (.bipush 91, 2) := by decide +kernel
theorem dX13_readMore_101 : decode cX13_readMore 101 = .ok (.if_icmp .ne 26, 3) := by decide +kernel
theorem dX13_readMore_104 : decode cX13_readMore 104 = .ok (.aload_n 0, 1) := by decide +kernel
theorem dX13_readMore_105 : decode cX13_readMore 105 = .ok (.dup, 1) := by decide +kernel
theorem dX13_readMore_106 : decode cX13_readMore 106 = .ok (.getfield 202, 3) := by decide +kernel
theorem dX13_readMore_109 : decode cX13_readMore 109 = .ok (.iconst 1, 1) := by decide +kernel
theorem dX13_readMore_110 : decode cX13_readMore 110 = .ok (.iadd, 1) := by decide +kernel
theorem dX13_readMore_111 : decode cX13_readMore 111 = .ok (.putfield 202, 3) := by decide +kernel
theorem dX13_readMore_114 : decode cX13_readMore 114 = .ok (.aload_n 0, 1) := by decide +kernel
theorem dX13_readMore_115 : decode cX13_readMore 115 = .ok (.iconst 1, 1) := by decide +kernel
theorem dX13_readMore_116 : decode cX13_readMore 116 = .ok (.aload_n 0, 1) := by decide +kernel
theorem dX13_readMore_117 : decode cX13_readMore 117 = .ok (.iload_n 1, 1) := by decide +kernel
theorem dX13_readMore_118 : decode cX13_readMore 118 = .ok (.iload_n 3, 1) := by decide +kernel
theorem dX13_readMore_119 : decode cX13_readMore 119 = .ok (.invokevirtual 322, 3) := by decide +kernel
theorem dX13_readMore_122 : decode cX13_readMore 122 = .ok (.iconst 0, 1) := by decide +kernel
theorem dX13_readMore_123 : decode cX13_readMore 123 = .ok (.invokevirtual 326, 3) := by decide +kernel
theorem dX13_readMore_126 : decode cX13_readMore 126 = .ok (.return_, 1) := by decide +kernel
theorem dX13_readMore_127 : decode cX13_readMore 127 = .ok (.aload_n 0, 1) := by decide +kernel
theorem dX13_readMore_128 : decode cX13_readMore 128 = .ok (.iconst 0, 1) := by decide +kernel
theorem dX13_readMore_129 : decode cX13_readMore 129 = .ok (.iload_n 1, 1) := by decide +kernel
theorem dX13_readMore_130 : decode cX13_readMore 130 = .ok (.iconst 0, 1) := by decide +kernel
theorem dX13_readMore_131 : decode cX13_readMore 131 = .ok (.invokevirtual 326, 3) := by decide +kernel
theorem dX13_readMore_134 : decode cX13_readMore 134 = .ok (.iload 4, 2) := by decide +kernel
theorem dX13_readMore_136 : decode cX13_readMore 136 = .ok (.bipush 42, 2) := by decide +kernel
theorem dX13_readMore_138 : decode cX13_readMore 138 = .ok (.if_icmp .ne 32, 3) := by decide +kernel
theorem dX13_readMore_141 : decode cX13_readMore 141 = .ok (.aload_n 0, 1) := by decide +kernel
theorem dX13_readMore_142 : decode cX13_readMore 142 = .ok (.dup, 1) := by decide +kernel
theorem dX13_readMore_143 : decode cX13_readMore 143 = .ok (.getfield 202, 3) := by decide +kernel
theorem dX13_readMore_146 : decode cX13_readMore 146 = .ok (.iconst 1, 1) := by decide +kernel
theorem dX13_readMore_147 : decode cX13_readMore 147 = .ok (.iadd, 1) := by decide +kernel
theorem dX13_readMore_148 : decode cX13_readMore 148 = .ok (.putfield 202, 3) := by decide +kernel
theorem dX13_readMore_151 : decode cX13_readMore 151 = .ok (.aload_n 0, 1) := by decide +kernel
theorem dX13_readMore_152 : decode cX13_readMore 152 = .ok (.aload_n 0, 1) := by decide +kernel
theorem dX13_readMore_153 : decode cX13_readMore 153 = .ok (.iload_n 1, 1) := by decide +kernel
theorem dX13_readMore_154 : decode cX13_readMore 154 = .ok (.iload_n 3, 1) := by decide +kernel
theorem dX13_readMore_155 : decode cX13_readMore 155 = .ok (.invokevirtual 322, 3) := by decide +kernel
theorem dX13_readMore_158 : decode cX13_readMore 158 = .ok (.iconst 1, 1) := by decide +kernel
theorem dX13_readMore_159 : decode cX13_readMore 159 = .ok (.iconst 0, 1) := by decide +kernel
theorem dX13_readMore_160 : decode cX13_readMore 160 = .ok (.iconst 0, 1) := by decide +kernel
theorem dX13_readMore_161 : decode cX13_readMore 161 = .ok (.iconst 0, 1) := by decide +kernel
theorem dX13_readMore_162 : decode cX13_readMore 162 = .ok (.iconst 0, 1) := by decide +kernel
theorem dX13_readMore_163 : decode cX13_readMore 163 = .ok (.invokevirtual 330, 3) := by decide +kernel
theorem dX13_readMore_166 : decode cX13_readMore 166 = .ok (.pop, 1) := by decide +kernel
theorem dX13_readMore_167 : decode cX13_readMore 167 = .ok (.goto 103, 3) := by decide +kernel
theorem dX13_readMore_170 : decode cX13_readMore 170 = .ok (.iload 4, 2) := by decide +kernel
theorem dX13_readMore_172 : decode cX13_readMore 172 = .ok (.invokestatic 334, 3) := by decide +kernel
theorem dX13_readMore_175 : decode cX13_readMore 175 = .ok (.ifCond .eq 87, 3) := by decide +kernel
theorem dX13_readMore_178 : decode cX13_readMore 178 = .ok (.aload_n 0, 1) := by decide +kernel
theorem dX13_readMore_179 : decode cX13_readMore 179 = .ok (.getfield 202, 3) := by decide +kernel
theorem dX13_readMore_182 : decode cX13_readMore 182 = .ok (.istore 5, 2) := by decide +kernel
theorem dX13_readMore_184 : decode cX13_readMore 184 = .ok (.aload_n 0, 1) := by decide +kernel
theorem dX13_readMore_185 : decode cX13_readMore 185 = .ok (.invokevirtual 208, 3) := by decide +kernel
theorem dX13_readMore_188 : decode cX13_readMore 188 = .ok (.ifCond .eq 48, 3) := by decide +kernel
theorem dX13_readMore_191 : decode cX13_readMore 191 = .ok (.aload_n 0, 1) := by decide +kernel
theorem dX13_readMore_192 : decode cX13_readMore 192 = .ok (.aload_n 0, 1) := by decide +kernel
theorem dX13_readMore_193 : decode cX13_readMore 193 = .ok (.getfield 202, 3) := by decide +kernel
theorem dX13_readMore_196 : decode cX13_readMore 196 = .ok (.invokevirtual 212, 3) := by decide +kernel
theorem dX13_readMore_199 : decode cX13_readMore 199 = .ok (.invokestatic 334, 3) := by decide +kernel
theorem dX13_readMore_202 : decode cX13_readMore 202 = .ok (.ifCond .eq 34, 3) := by decide +kernel
theorem dX13_readMore_205 : decode cX13_readMore 205 = .ok (.aload_n 0, 1) := by decide +kernel
theorem dX13_readMore_206 : decode cX13_readMore 206 = .ok (.getfield 202, 3) := by decide +kernel
theorem dX13_readMore_209 : decode cX13_readMore 209 = .ok (.iload 5, 2) := by decide +kernel
theorem dX13_readMore_211 : decode cX13_readMore 211 = .ok (.isub, 1) := by decide +kernel
theorem dX13_readMore_212 : decode cX13_readMore 212 = .ok (.bipush 8, 2) := by decide +kernel
theorem dX13_readMore_214 : decode cX13_readMore 214 = .ok (.if_icmp .ne 9, 3) := by decide +kernel
theorem dX13_readMore_217 : decode cX13_readMore 217 = .ok (.aload_n 0, 1) := by decide +kernel
theorem dX13_readMore_218 : decode cX13_readMore 218 = .ok (.iload 5, 2) := by decide +kernel
theorem dX13_readMore_220 : decode cX13_readMore 220 = .ok (.invokevirtual 216, 3) := by decide +kernel
theorem dX13_readMore_223 : decode cX13_readMore 223 = .ok (.aload_n 0, 1) := by decide +kernel
theorem dX13_readMore_224 : decode cX13_readMore 224 = .ok (.dup, 1) := by decide +kernel
theorem dX13_readMore_225 : decode cX13_readMore 225 = .ok (.getfield 202, 3) := by decide +kernel
theorem dX13_readMore_228 : decode cX13_readMore 228 = .ok (.iconst 1, 1) := by decide +kernel
theorem dX13_readMore_229 : decode cX13_readMore 229 = .ok (.iadd, 1) := by decide +kernel
theorem dX13_readMore_230 : decode cX13_readMore 230 = .ok (.putfield 202, 3) := by decide +kernel
theorem dX13_readMore_233 : decode cX13_readMore 233 = .ok (.goto (-49), 3) := by decide +kernel
theorem dX13_readMore_236 : decode cX13_readMore 236 = .ok (.aload_n 0, 1) := by decide +kernel
theorem dX13_readMore_237 : decode cX13_readMore 237 = .ok (.aload_n 0, 1) := by decide +kernel
theorem dX13_readMore_238 : decode cX13_readMore 238 = .ok (.iload_n 1, 1) := by decide +kernel
theorem dX13_readMore_239 : decode cX13_readMore 239 = .ok (.iload_n 3, 1) := by decide +kernel
theorem dX13_readMore_240 : decode cX13_readMore 240 = .ok (.invokevirtual 322, 3) := by decide +kernel
theorem dX13_readMore_243 : decode cX13_readMore 243 = .ok (.iconst 0, 1) := by decide +kernel
theorem dX13_readMore_244 : decode cX13_readMore 244 = .ok (.iload 5, 2) := by decide +kernel
theorem dX13_readMore_246 : decode cX13_readMore 246 = .ok (.aload_n 0, 1) := by decide +kernel
theorem dX13_readMore_247 : decode cX13_readMore 247 = .ok (.getfield 202, 3) := by decide +kernel
theorem dX13_readMore_250 : decode cX13_readMore 250 = .ok (.iload 5, 2) := by decide +kernel
theorem dX13_readMore_252 : decode cX13_readMore 252 = .ok (.isub, 1) := by decide +kernel
theorem dX13_readMore_253 : decode cX13_readMore 253 = .ok (.iconst 0, 1) := by decide +kernel
theorem dX13_readMore_254 : decode cX13_readMore 254 = .ok (.iconst 0, 1) := by decide +kernel
theorem dX13_readMore_255 : decode cX13_readMore 255 = .ok (.invokevirtual 330, 3) := by decide +kernel
theorem dX13_readMore_258 : decode cX13_readMore 258 = .ok (.pop, 1) := by decide +kernel
theorem dX13_readMore_259 : decode cX13_readMore 259 = .ok (.goto 11, 3) := by decide +kernel
theorem dX13_readMore_262 : decode cX13_readMore 262 = .ok (.aload_n 0, 1) := by decide +kernel
theorem dX13_readMore_263 : decode cX13_readMore 263 = .ok (.aload_n 0, 1) := by decide +kernel
theorem dX13_readMore_264 : decode cX13_readMore 264 = .ok (.getfield 202, 3) := by decide +kernel
theorem dX13_readMore_267 : decode cX13_readMore 267 = .ok (.invokevirtual 216, 3) := by decide +kernel
theorem dX13_readMore_270 : decode cX13_readMore 270 = .ok (.return_, 1) := by decide +kernel
theorem dX13_isNumberNext_0 : decode cX13_isNumberNext 0 = .ok (.aload_n 0, 1) := by decide +kernel
theorem dX13_isNumberNext_1 : decode cX13_isNumberNext 1 = .ok (.aload_n 0, 1) := by decide +kernel
theorem dX13_isNumberNext_2 : decode cX13_isNumberNext 2 = .ok (.getfield 202, 3) := by decide +kernel
theorem dX13_isNumberNext_5 : decode cX13_isNumberNext 5 = .ok (.invokevirtual 212, 3) := by decide +kernel
theorem dX13_isNumberNext_8 : decode cX13_isNumberNext 8 = .ok (.bipush 45, 2) := by decide +kernel
theorem dX13_isNumberNext_10 : decode cX13_isNumberNext 10 = .ok (.if_icmp .eq 17, 3) := by decide +kernel
theorem dX13_isNumberNext_13 : decode cX13_isNumberNext 13 = .ok (.aload_n 0, 1) := by decide +kernel
theorem dX13_isNumberNext_14 : decode cX13_isNumberNext 14 = .ok (.aload_n 0, 1) := by decide +kernel
theorem dX13_isNumberNext_15 : decode cX13_isNumberNext 15 = .ok (.getfield 202, 3) := by decide +kernel
theorem dX13_isNumberNext_18 : decode cX13_isNumberNext 18 = .ok (.invokevirtual 212, 3) := by decide +kernel
theorem dX13_isNumberNext_21 : decode cX13_isNumberNext 21 = .ok (.invokestatic 231, 3) := by decide +kernel
theorem dX13_isNumberNext_24 : decode cX13_isNumberNext 24 = .ok (.ifCond .eq 7, 3) := by decide +kernel
theorem dX13_isNumberNext_27 : decode cX13_isNumberNext 27 = .ok (.iconst 1, 1) := by decide +kernel
theorem dX13_isNumberNext_28 : decode cX13_isNumberNext 28 = .ok (.goto 4, 3) := by decide +kernel
theorem dX13_isNumberNext_31 : decode cX13_isNumberNext 31 = .ok (.iconst 0, 1) := by decide +kernel
theorem dX13_isNumberNext_32 : decode cX13_isNumberNext 32 = .ok (.ireturn, 1) := by decide +kernel
theorem dX13_readPlaces_0 : decode cX13_readPlaces 0 = .ok (.iconst 0, 1) := by decide +kernel
theorem dX13_readPlaces_1 : decode cX13_readPlaces 1 = .ok (.istore_n 2, 1) := by decide +kernel
theorem dX13_readPlaces_2 : decode cX13_readPlaces 2 = .ok (.iconst 0, 1) := by decide +kernel
theorem dX13_readPlaces_3 : decode cX13_readPlaces 3 = .ok (.istore_n 3, 1) := by decide +kernel
theorem dX13_readPlaces_4 : decode cX13_readPlaces 4 = .ok (.iconst 0, 1) := by decide +kernel
theorem dX13_readPlaces_5 : decode cX13_readPlaces 5 = .ok (.istore 4, 2) := by decide +kernel
theorem dX13_readPlaces_7 : decode cX13_readPlaces 7 = .ok (.iconst 1, 1) := by decide +kernel
theorem dX13_readPlaces_8 : decode cX13_readPlaces 8 = .ok (.istore 5, 2) := by decide +kernel
theorem dX13_readPlaces_10 : decode cX13_readPlaces 10 = .ok (.aload_n 0, 1) := by decide +kernel
theorem dX13_readPlaces_11 : decode cX13_readPlaces 11 = .ok (.invokevirtual 337, 3) := by decide +kernel
theorem dX13_readPlaces_14 : decode cX13_readPlaces 14 = .ok (.ifCond .eq 11, 3) := by decide +kernel
theorem dX13_readPlaces_17 : decode cX13_readPlaces 17 = .ok (.aload_n 0, 1) := by decide +kernel
theorem dX13_readPlaces_18 : decode cX13_readPlaces 18 = .ok (.iconst 3, 1) := by decide +kernel
theorem dX13_readPlaces_19 : decode cX13_readPlaces 19 = .ok (.invokevirtual 255, 3) := by decide +kernel
theorem dX13_readPlaces_22 : decode cX13_readPlaces 22 = .ok (.istore_n 3, 1) := by decide +kernel
theorem dX13_readPlaces_23 : decode cX13_readPlaces 23 = .ok (.iconst 1, 1) := by decide +kernel
theorem dX13_readPlaces_24 : decode cX13_readPlaces 24 = .ok (.istore_n 2, 1) := by decide +kernel
theorem dX13_readPlaces_25 : decode cX13_readPlaces 25 = .ok (.aload_n 0, 1) := by decide +kernel
theorem dX13_readPlaces_26 : decode cX13_readPlaces 26 = .ok (.invokevirtual 208, 3) := by decide +kernel
theorem dX13_readPlaces_29 : decode cX13_readPlaces 29 = .ok (.ifCond .ne 4, 3) := by decide +kernel
theorem dX13_readPlaces_32 : decode cX13_readPlaces 32 = .ok (.return_, 1) := by decide +kernel
theorem dX13_readPlaces_33 : decode cX13_readPlaces 33 = .ok (.aload_n 0, 1) := by decide +kernel
theorem dX13_readPlaces_34 : decode cX13_readPlaces 34 = .ok (.aload_n 0, 1) := by decide +kernel
theorem dX13_readPlaces_35 : decode cX13_readPlaces 35 = .ok (.getfield 202, 3) := by decide +kernel
theorem dX13_readPlaces_38 : decode cX13_readPlaces 38 = .ok (.invokevirtual 212, 3) := by decide +kernel
theorem dX13_readPlaces_41 : decode cX13_readPlaces 41 = .ok (.bipush 58, 2) := by decide +kernel
theorem dX13_readPlaces_43 : decode cX13_readPlaces 43 = .ok (.if_icmp .eq 15, 3) := by decide +kernel
theorem dX13_readPlaces_46 : decode cX13_readPlaces 46 = .ok (.aload_n 0, 1) := by decide +kernel
theorem dX13_readPlaces_47 : decode cX13_readPlaces 47 = .ok (.iload_n 1, 1) := by decide +kernel
theorem dX13_readPlaces_48 : decode cX13_readPlaces 48 = .ok (.iconst 2, 1) := by decide +kernel
theorem dX13_readPlaces_49 : decode cX13_readPlaces 49 = .ok (.iload_n 3, 1) := by decide +kernel
theorem dX13_readPlaces_50 : decode cX13_readPlaces 50 = .ok (.iconst 0, 1) := by decide +kernel
theorem dX13_readPlaces_51 : decode cX13_readPlaces 51 = .ok (.iconst 0, 1) := by decide +kernel
theorem dX13_readPlaces_52 : decode cX13_readPlaces 52 = .ok (.iconst 0, 1) := by decide +kernel
theorem dX13_readPlaces_53 : decode cX13_readPlaces 53 = .ok (.invokevirtual 330, 3) := by decide +kernel
theorem dX13_readPlaces_56 : decode cX13_readPlaces 56 = .ok (.pop, 1) := by decide +kernel
theorem dX13_readPlaces_57 : decode cX13_readPlaces 57 = .ok (.return_, 1) := by decide +kernel
theorem dX13_readPlaces_58 : decode cX13_readPlaces 58 = .ok (.aload_n 0, 1) := by decide +kernel
theorem dX13_readPlaces_59 : decode cX13_readPlaces 59 = .ok (.dup, 1) := by decide +kernel
theorem dX13_readPlaces_60 : decode cX13_readPlaces 60 = .ok (.getfield 202, 3) := by decide +kernel
theorem dX13_readPlaces_63 : decode cX13_readPlaces 63 = .ok (.iconst 1, 1) := by decide +kernel
theorem dX13_readPlaces_64 : decode cX13_readPlaces 64 = .ok (.iadd, 1) := by decide +kernel
theorem dX13_readPlaces_65 : decode cX13_readPlaces 65 = .ok (.putfield 202, 3) := by decide +kernel
theorem dX13_readPlaces_68 : decode cX13_readPlaces 68 = .ok (.aload_n 0, 1) := by decide +kernel
theorem dX13_readPlaces_69 : decode cX13_readPlaces 69 = .ok (.invokevirtual 337, 3) := by decide +kernel
theorem dX13_readPlaces_72 : decode cX13_readPlaces 72 = .ok (.ifCond .eq 13, 3) := by decide +kernel
theorem dX13_readPlaces_75 : decode cX13_readPlaces 75 = .ok (.aload_n 0, 1) := by decide +kernel
theorem dX13_readPlaces_76 : decode cX13_readPlaces 76 = .ok (.iconst 3, 1) := by decide +kernel
theorem dX13_readPlaces_77 : decode cX13_readPlaces 77 = .ok (.invokevirtual 255, 3) := by decide +kernel
theorem dX13_readPlaces_80 : decode cX13_readPlaces 80 = .ok (.istore 4, 2) := by decide +kernel
theorem dX13_readPlaces_82 : decode cX13_readPlaces 82 = .ok (.iinc 2 2, 3) := by decide +kernel
theorem dX13_readPlaces_85 : decode cX13_readPlaces 85 = .ok (.aload_n 0, 1) := by decide +kernel
theorem dX13_readPlaces_86 : decode cX13_readPlaces 86 = .ok (.invokevirtual 208, 3) := by decide +kernel
theorem dX13_readPlaces_89 : decode cX13_readPlaces 89 = .ok (.ifCond .eq 44, 3) := by decide +kernel
theorem dX13_readPlaces_92 : decode cX13_readPlaces 92 = .ok (.aload_n 0, 1) := by decide +kernel
theorem dX13_readPlaces_93 : decode cX13_readPlaces 93 = .ok (.aload_n 0, 1) := by decide +kernel
theorem dX13_readPlaces_94 : decode cX13_readPlaces 94 = .ok (.getfield 202, 3) := by decide +kernel
theorem dX13_readPlaces_97 : decode cX13_readPlaces 97 = .ok (.invokevirtual 212, 3) := by decide +kernel
theorem dX13_readPlaces_100 : decode cX13_readPlaces 100 = .ok (.bipush 58, 2) := by decide +kernel
theorem dX13_readPlaces_102 : decode cX13_readPlaces 102 = .ok (.if_icmp .ne 31, 3) := by decide +kernel
theorem dX13_readPlaces_105 : decode cX13_readPlaces 105 = .ok (.aload_n 0, 1) := by decide +kernel
theorem dX13_readPlaces_106 : decode cX13_readPlaces 106 = .ok (.dup, 1) := by decide +kernel
theorem dX13_readPlaces_107 : decode cX13_readPlaces 107 = .ok (.getfield 202, 3) := by decide +kernel
theorem dX13_readPlaces_110 : decode cX13_readPlaces 110 = .ok (.iconst 1, 1) := by decide +kernel
theorem dX13_readPlaces_111 : decode cX13_readPlaces 111 = .ok (.iadd, 1) := by decide +kernel
theorem dX13_readPlaces_112 : decode cX13_readPlaces 112 = .ok (.putfield 202, 3) := by decide +kernel
theorem dX13_readPlaces_115 : decode cX13_readPlaces 115 = .ok (.aload_n 0, 1) := by decide +kernel
theorem dX13_readPlaces_116 : decode cX13_readPlaces 116 = .ok (.invokevirtual 337, 3) := by decide +kernel
theorem dX13_readPlaces_119 : decode cX13_readPlaces 119 = .ok (.ifCond .eq 11, 3) := by decide +kernel
theorem dX13_readPlaces_122 : decode cX13_readPlaces 122 = .ok (.aload_n 0, 1) := by decide +kernel
theorem dX13_readPlaces_123 : decode cX13_readPlaces 123 = .ok (.iconst 3, 1) := by decide +kernel
theorem dX13_readPlaces_124 : decode cX13_readPlaces 124 = .ok (.invokevirtual 255, 3) := by decide +kernel
theorem dX13_readPlaces_127 : decode cX13_readPlaces 127 = .ok (.goto 4, 3) := by decide +kernel
theorem dX13_readPlaces_130 : decode cX13_readPlaces 130 = .ok (.iconst 1, 1) := by decide +kernel
theorem dX13_readPlaces_131 : decode cX13_readPlaces 131 = .ok (.istore 5, 2) := by decide +kernel
theorem dX13_readPlaces_133 : decode cX13_readPlaces 133 = .ok (.aload_n 0, 1) := by decide +kernel
theorem dX13_readPlaces_134 : decode cX13_readPlaces 134 = .ok (.iload_n 1, 1) := by decide +kernel
theorem dX13_readPlaces_135 : decode cX13_readPlaces 135 = .ok (.iconst 3, 1) := by decide +kernel
theorem dX13_readPlaces_136 : decode cX13_readPlaces 136 = .ok (.iload_n 3, 1) := by decide +kernel
theorem dX13_readPlaces_137 : decode cX13_readPlaces 137 = .ok (.iload 4, 2) := by decide +kernel
theorem dX13_readPlaces_139 : decode cX13_readPlaces 139 = .ok (.iload 5, 2) := by decide +kernel
theorem dX13_readPlaces_141 : decode cX13_readPlaces 141 = .ok (.iload_n 2, 1) := by decide +kernel
theorem dX13_readPlaces_142 : decode cX13_readPlaces 142 = .ok (.invokevirtual 330, 3) := by decide +kernel
theorem dX13_readPlaces_145 : decode cX13_readPlaces 145 = .ok (.pop, 1) := by decide +kernel
theorem dX13_readPlaces_146 : decode cX13_readPlaces 146 = .ok (.return_, 1) := by decide +kernel
def mo_newSegment_j79 (x1 : Int32) (x3 : Int32) (S : md_S) : Option (Int32 × md_S) :=
  if md_in x1 100 then
  md_l (md_w S 35 x1.toNatClampNeg x3) fun S85 =>
  md_l (md_p S85 27 ((S85.1 27) + 1)) fun S93 =>
  some (x3, S93)
  else none
theorem ro_newSegment_j79 {l : Launch} {G : mv_G} {B : mv_H} {m d : Nat} (hG : mv_ok G) (hm : G.2.2.1 ≤ m) {x1 : Int32} {x3 : Int32} {S : md_S} {q : (Int32 × md_S)} (hq : mo_newSegment_j79 x1 x3 S = some q) : mv_rq l G mX13_newSegment d 79 [some (.ref m), some (.int x1), none, some (.int x3)] [] (md_H G B m S) (md_Q G B m q) := by
  unfold mo_newSegment_j79 at hq
  refine q_aload_n dX13_newSegment_79 rfl ?_
  refine r_geta 35 dX13_newSegment_80 fl_RX13_60 (by decide) rfl kk_35 ?_
  refine q_iload_n dX13_newSegment_83 rfl ?_
  refine q_iload_n dX13_newSegment_84 rfl ?_
  obtain ⟨g85, hq⟩ := md_g hq
  refine r_iast hG hm 35 dX13_newSegment_85 kk_35 g85 (fun S85 e85 => ?_)
  have hq := md_l_e e85 hq
  clear e85
  show mv_rq l G mX13_newSegment d 86 [some (.ref m), some (.int x1), none, some (.int x3)] [] (md_H G B m S85) _
  refine q_aload_n dX13_newSegment_86 rfl ?_
  refine q_dup dX13_newSegment_87 rfl ?_
  refine r_geti 27 dX13_newSegment_88 fl_RX13_313 (by decide) rfl ki_27 ?_
  refine q_iconst (v := 1) dX13_newSegment_91 (by decide) ?_
  refine q_iadd dX13_newSegment_92 ?_
  refine r_puti 27 .int dX13_newSegment_93 fl_RX13_313 (by decide) rfl ki_27 rfl kp_27 rfl rfl hm (fun S93 e93 => ?_)
  have hq := md_l_e e93 hq
  clear e93
  show mv_rq l G mX13_newSegment d 96 [some (.ref m), some (.int x1), none, some (.int x3)] [] (md_H G B m S93) _
  refine q_iload_n dX13_newSegment_96 rfl ?_
  obtain rfl := Option.some.inj hq
  exact q_iret (ty := .int) dX13_newSegment_97 rfl rfl ⟨rfl, rfl⟩
def mo_newSegment (x1 : Int32) (x2 : Int32) (S : md_S) : Option (Int32 × md_S) :=
  if md_in (S.1 27) 170 then
  md_l (md_w S 37 (S.1 27).toNatClampNeg (-1)) fun S11 =>
  if md_in (S.1 27) 170 then
  md_l (md_w S11 38 (S.1 27).toNatClampNeg (-1)) fun S18 =>
  if md_in (S.1 27) 170 then
  md_l (md_w S18 39 (S.1 27).toNatClampNeg (-1)) fun S25 =>
  if md_in (S.1 27) 170 then
  md_l (md_w S25 40 (S.1 27).toNatClampNeg 0) fun S32 =>
  if md_in (S.1 27) 170 then
  md_l (md_w S32 41 (S.1 27).toNatClampNeg x1) fun S39 =>
  if md_in (S.1 27) 170 then
  md_l (md_w S39 42 (S.1 27).toNatClampNeg (vp_nar .boolean x2)) fun S46 =>
  if md_in x1 100 then
  if (S46.2 34 x1.toNatClampNeg) = (-1) then
    if md_in x1 100 then
    md_l (md_w S46 34 x1.toNatClampNeg (S.1 27)) fun S63 =>
    mo_newSegment_j79 x1 (S.1 27) S63
    else none
  else
    if md_in x1 100 then
    if md_in (S46.2 35 x1.toNatClampNeg) 170 then
    md_l (md_w S46 37 (S46.2 35 x1.toNatClampNeg).toNatClampNeg (S.1 27)) fun S78 =>
    mo_newSegment_j79 x1 (S.1 27) S78
    else none
    else none
  else none
  else none
  else none
  else none
  else none
  else none
  else none
theorem ro_newSegment {l : Launch} {G : mv_G} {B : mv_H} {m d : Nat} (hG : mv_ok G) (hm : G.2.2.1 ≤ m) {x1 : Int32} {x2 : Int32} {S : md_S} {q : (Int32 × md_S)} (hq : mo_newSegment x1 x2 S = some q) : mv_rq l G mX13_newSegment d 0 (mv_in [.ref m, .int x1, .int x2] 4) [] (md_H G B m S) (md_Q G B m q) := by
  unfold mo_newSegment at hq
  show mv_rq l G mX13_newSegment d 0 [some (.ref m), some (.int x1), some (.int x2), none] [] (md_H G B m S) _
  refine q_aload_n dX13_newSegment_0 rfl ?_
  refine r_geti 27 dX13_newSegment_1 fl_RX13_313 (by decide) rfl ki_27 ?_
  refine q_istore_n dX13_newSegment_4 (Nat.le_of_ble_eq_true rfl) rfl ?_
  show mv_rq l G mX13_newSegment d 5 [some (.ref m), some (.int x1), some (.int x2), some (.int (S.1 27))] [] (md_H G B m S) _
  refine q_aload_n dX13_newSegment_5 rfl ?_
  refine r_geta 37 dX13_newSegment_6 fl_RX13_67 (by decide) rfl kk_37 ?_
  refine q_iload_n dX13_newSegment_9 rfl ?_
  refine q_iconst (v := (-1)) dX13_newSegment_10 (by decide) ?_
  obtain ⟨g11, hq⟩ := md_g hq
  refine r_iast hG hm 37 dX13_newSegment_11 kk_37 g11 (fun S11 e11 => ?_)
  have hq := md_l_e e11 hq
  clear e11
  show mv_rq l G mX13_newSegment d 12 [some (.ref m), some (.int x1), some (.int x2), some (.int (S.1 27))] [] (md_H G B m S11) _
  refine q_aload_n dX13_newSegment_12 rfl ?_
  refine r_geta 38 dX13_newSegment_13 fl_RX13_70 (by decide) rfl kk_38 ?_
  refine q_iload_n dX13_newSegment_16 rfl ?_
  refine q_iconst (v := (-1)) dX13_newSegment_17 (by decide) ?_
  obtain ⟨g18, hq⟩ := md_g hq
  refine r_iast hG hm 38 dX13_newSegment_18 kk_38 g18 (fun S18 e18 => ?_)
  have hq := md_l_e e18 hq
  clear e18
  show mv_rq l G mX13_newSegment d 19 [some (.ref m), some (.int x1), some (.int x2), some (.int (S.1 27))] [] (md_H G B m S18) _
  refine q_aload_n dX13_newSegment_19 rfl ?_
  refine r_geta 39 dX13_newSegment_20 fl_RX13_73 (by decide) rfl kk_39 ?_
  refine q_iload_n dX13_newSegment_23 rfl ?_
  refine q_iconst (v := (-1)) dX13_newSegment_24 (by decide) ?_
  obtain ⟨g25, hq⟩ := md_g hq
  refine r_iast hG hm 39 dX13_newSegment_25 kk_39 g25 (fun S25 e25 => ?_)
  have hq := md_l_e e25 hq
  clear e25
  show mv_rq l G mX13_newSegment d 26 [some (.ref m), some (.int x1), some (.int x2), some (.int (S.1 27))] [] (md_H G B m S25) _
  refine q_aload_n dX13_newSegment_26 rfl ?_
  refine r_geta 40 dX13_newSegment_27 fl_RX13_76 (by decide) rfl kk_40 ?_
  refine q_iload_n dX13_newSegment_30 rfl ?_
  refine q_iconst (v := 0) dX13_newSegment_31 (by decide) ?_
  obtain ⟨g32, hq⟩ := md_g hq
  refine r_iast hG hm 40 dX13_newSegment_32 kk_40 g32 (fun S32 e32 => ?_)
  have hq := md_l_e e32 hq
  clear e32
  show mv_rq l G mX13_newSegment d 33 [some (.ref m), some (.int x1), some (.int x2), some (.int (S.1 27))] [] (md_H G B m S32) _
  refine q_aload_n dX13_newSegment_33 rfl ?_
  refine r_geta 41 dX13_newSegment_34 fl_RX13_79 (by decide) rfl kk_41 ?_
  refine q_iload_n dX13_newSegment_37 rfl ?_
  refine q_iload_n dX13_newSegment_38 rfl ?_
  obtain ⟨g39, hq⟩ := md_g hq
  refine r_iast hG hm 41 dX13_newSegment_39 kk_41 g39 (fun S39 e39 => ?_)
  have hq := md_l_e e39 hq
  clear e39
  show mv_rq l G mX13_newSegment d 40 [some (.ref m), some (.int x1), some (.int x2), some (.int (S.1 27))] [] (md_H G B m S39) _
  refine q_aload_n dX13_newSegment_40 rfl ?_
  refine r_geta 42 dX13_newSegment_41 fl_RX13_82 (by decide) rfl kk_42 ?_
  refine q_iload_n dX13_newSegment_44 rfl ?_
  refine q_iload_n dX13_newSegment_45 rfl ?_
  obtain ⟨g46, hq⟩ := md_g hq
  refine r_zast hG hm 42 dX13_newSegment_46 kk_42 g46 (fun S46 e46 => ?_)
  have hq := md_l_e e46 hq
  clear e46
  show mv_rq l G mX13_newSegment d 47 [some (.ref m), some (.int x1), some (.int x2), some (.int (S.1 27))] [] (md_H G B m S46) _
  refine q_aload_n dX13_newSegment_47 rfl ?_
  refine r_geta 34 dX13_newSegment_48 fl_RX13_57 (by decide) rfl kk_34 ?_
  refine q_iload_n dX13_newSegment_51 rfl ?_
  obtain ⟨g52, hq⟩ := md_g hq
  refine r_iald hG 34 dX13_newSegment_52 kk_34 g52 ?_
  refine q_iconst (v := (-1)) dX13_newSegment_53 (by decide) ?_
  refine q_icmp_ne (tgt := 67) dX13_newSegment_54 (by decide) (fun c54 => ?_) (fun c54 => ?_)
  ·
    have hq := md_neg c54 hq
    refine q_aload_n dX13_newSegment_67 rfl ?_
    refine r_geta 37 dX13_newSegment_68 fl_RX13_67 (by decide) rfl kk_37 ?_
    refine q_aload_n dX13_newSegment_71 rfl ?_
    refine r_geta 35 dX13_newSegment_72 fl_RX13_60 (by decide) rfl kk_35 ?_
    refine q_iload_n dX13_newSegment_75 rfl ?_
    obtain ⟨g76, hq⟩ := md_g hq
    refine r_iald hG 35 dX13_newSegment_76 kk_35 g76 ?_
    refine q_iload_n dX13_newSegment_77 rfl ?_
    obtain ⟨g78, hq⟩ := md_g hq
    refine r_iast hG hm 37 dX13_newSegment_78 kk_37 g78 (fun S78 e78 => ?_)
    have hq := md_l_e e78 hq
    clear e78
    show mv_rq l G mX13_newSegment d 79 [some (.ref m), some (.int x1), some (.int x2), some (.int (S.1 27))] [] (md_H G B m S78) _
    refine mv_weak (A := [some (.ref m), some (.int x1), none, some (.int (S.1 27))]) (by repeat' constructor) ?_
    exact ro_newSegment_j79 hG hm hq
  ·
    have hq := md_pos c54 hq
    refine q_aload_n dX13_newSegment_57 rfl ?_
    refine r_geta 34 dX13_newSegment_58 fl_RX13_57 (by decide) rfl kk_34 ?_
    refine q_iload_n dX13_newSegment_61 rfl ?_
    refine q_iload_n dX13_newSegment_62 rfl ?_
    obtain ⟨g63, hq⟩ := md_g hq
    refine r_iast hG hm 34 dX13_newSegment_63 kk_34 g63 (fun S63 e63 => ?_)
    have hq := md_l_e e63 hq
    clear e63
    show mv_rq l G mX13_newSegment d 64 [some (.ref m), some (.int x1), some (.int x2), some (.int (S.1 27))] [] (md_H G B m S63) _
    refine q_goto (tgt := 79) dX13_newSegment_64 (by decide) ?_
    refine mv_weak (A := [some (.ref m), some (.int x1), none, some (.int (S.1 27))]) (by repeat' constructor) ?_
    exact ro_newSegment_j79 hG hm hq
def mo_newSelector_j91 (x1 : Int32) (x7 : Int32) (S : md_S) : Option (Int32 × md_S) :=
  if md_in x1 170 then
  md_l (md_w S 39 x1.toNatClampNeg x7) fun S98 =>
  if md_in x1 170 then
  if md_in x1 170 then
  md_l (md_w S98 40 x1.toNatClampNeg ((S98.2 40 x1.toNatClampNeg) + 1)) fun S108 =>
  md_l (md_p S108 28 ((S108.1 28) + 1)) fun S116 =>
  some (x7, S116)
  else none
  else none
  else none
theorem ro_newSelector_j91 {l : Launch} {G : mv_G} {B : mv_H} {m d : Nat} (hG : mv_ok G) (hm : G.2.2.1 ≤ m) {x1 : Int32} {x7 : Int32} {S : md_S} {q : (Int32 × md_S)} (hq : mo_newSelector_j91 x1 x7 S = some q) : mv_rq l G mX13_newSelector d 91 [some (.ref m), some (.int x1), none, none, none, none, none, some (.int x7)] [] (md_H G B m S) (md_Q G B m q) := by
  unfold mo_newSelector_j91 at hq
  refine q_aload_n dX13_newSelector_91 rfl ?_
  refine r_geta 39 dX13_newSelector_92 fl_RX13_73 (by decide) rfl kk_39 ?_
  refine q_iload_n dX13_newSelector_95 rfl ?_
  refine q_iload dX13_newSelector_96 rfl ?_
  obtain ⟨g98, hq⟩ := md_g hq
  refine r_iast hG hm 39 dX13_newSelector_98 kk_39 g98 (fun S98 e98 => ?_)
  have hq := md_l_e e98 hq
  clear e98
  show mv_rq l G mX13_newSelector d 99 [some (.ref m), some (.int x1), none, none, none, none, none, some (.int x7)] [] (md_H G B m S98) _
  refine q_aload_n dX13_newSelector_99 rfl ?_
  refine r_geta 40 dX13_newSelector_100 fl_RX13_76 (by decide) rfl kk_40 ?_
  refine q_iload_n dX13_newSelector_103 rfl ?_
  refine q_dup2_11 dX13_newSelector_104 rfl rfl ?_
  obtain ⟨g105, hq⟩ := md_g hq
  refine r_iald hG 40 dX13_newSelector_105 kk_40 g105 ?_
  refine q_iconst (v := 1) dX13_newSelector_106 (by decide) ?_
  refine q_iadd dX13_newSelector_107 ?_
  obtain ⟨g108, hq⟩ := md_g hq
  refine r_iast hG hm 40 dX13_newSelector_108 kk_40 g108 (fun S108 e108 => ?_)
  have hq := md_l_e e108 hq
  clear e108
  show mv_rq l G mX13_newSelector d 109 [some (.ref m), some (.int x1), none, none, none, none, none, some (.int x7)] [] (md_H G B m S108) _
  refine q_aload_n dX13_newSelector_109 rfl ?_
  refine q_dup dX13_newSelector_110 rfl ?_
  refine r_geti 28 dX13_newSelector_111 fl_RX13_316 (by decide) rfl ki_28 ?_
  refine q_iconst (v := 1) dX13_newSelector_114 (by decide) ?_
  refine q_iadd dX13_newSelector_115 ?_
  refine r_puti 28 .int dX13_newSelector_116 fl_RX13_316 (by decide) rfl ki_28 rfl kp_28 rfl rfl hm (fun S116 e116 => ?_)
  have hq := md_l_e e116 hq
  clear e116
  show mv_rq l G mX13_newSelector d 119 [some (.ref m), some (.int x1), none, none, none, none, none, some (.int x7)] [] (md_H G B m S116) _
  refine q_iload dX13_newSelector_119 rfl ?_
  obtain rfl := Option.some.inj hq
  exact q_iret (ty := .int) dX13_newSelector_121 rfl rfl ⟨rfl, rfl⟩
def mo_newSelector (x1 : Int32) (x2 : Int32) (x3 : Int32) (x4 : Int32) (x5 : Int32) (x6 : Int32) (S : md_S) : Option (Int32 × md_S) :=
  if md_in (S.1 28) 170 then
  md_l (md_w S 43 (S.1 28).toNatClampNeg x2) fun S13 =>
  if md_in (S.1 28) 170 then
  md_l (md_w S13 45 (S.1 28).toNatClampNeg x3) fun S21 =>
  if md_in (S.1 28) 170 then
  md_l (md_w S21 46 (S.1 28).toNatClampNeg x4) fun S30 =>
  if md_in (S.1 28) 170 then
  md_l (md_w S30 47 (S.1 28).toNatClampNeg x5) fun S39 =>
  if md_in (S.1 28) 170 then
  md_l (md_w S39 48 (S.1 28).toNatClampNeg x6) fun S48 =>
  if md_in (S.1 28) 170 then
  md_l (md_w S48 44 (S.1 28).toNatClampNeg (-1)) fun S56 =>
  if md_in x1 170 then
  if (S56.2 38 x1.toNatClampNeg) = (-1) then
    if md_in x1 170 then
    md_l (md_w S56 38 x1.toNatClampNeg (S.1 28)) fun S74 =>
    mo_newSelector_j91 x1 (S.1 28) S74
    else none
  else
    if md_in x1 170 then
    if md_in (S56.2 39 x1.toNatClampNeg) 170 then
    md_l (md_w S56 44 (S56.2 39 x1.toNatClampNeg).toNatClampNeg (S.1 28)) fun S90 =>
    mo_newSelector_j91 x1 (S.1 28) S90
    else none
    else none
  else none
  else none
  else none
  else none
  else none
  else none
  else none
theorem ro_newSelector {l : Launch} {G : mv_G} {B : mv_H} {m d : Nat} (hG : mv_ok G) (hm : G.2.2.1 ≤ m) {x1 : Int32} {x2 : Int32} {x3 : Int32} {x4 : Int32} {x5 : Int32} {x6 : Int32} {S : md_S} {q : (Int32 × md_S)} (hq : mo_newSelector x1 x2 x3 x4 x5 x6 S = some q) : mv_rq l G mX13_newSelector d 0 (mv_in [.ref m, .int x1, .int x2, .int x3, .int x4, .int x5, .int x6] 8) [] (md_H G B m S) (md_Q G B m q) := by
  unfold mo_newSelector at hq
  show mv_rq l G mX13_newSelector d 0 [some (.ref m), some (.int x1), some (.int x2), some (.int x3), some (.int x4), some (.int x5), some (.int x6), none] [] (md_H G B m S) _
  refine q_aload_n dX13_newSelector_0 rfl ?_
  refine r_geti 28 dX13_newSelector_1 fl_RX13_316 (by decide) rfl ki_28 ?_
  refine q_istore dX13_newSelector_4 (Nat.le_of_ble_eq_true rfl) rfl ?_
  show mv_rq l G mX13_newSelector d 6 [some (.ref m), some (.int x1), some (.int x2), some (.int x3), some (.int x4), some (.int x5), some (.int x6), some (.int (S.1 28))] [] (md_H G B m S) _
  refine q_aload_n dX13_newSelector_6 rfl ?_
  refine r_geta 43 dX13_newSelector_7 fl_RX13_85 (by decide) rfl kk_43 ?_
  refine q_iload dX13_newSelector_10 rfl ?_
  refine q_iload_n dX13_newSelector_12 rfl ?_
  obtain ⟨g13, hq⟩ := md_g hq
  refine r_iast hG hm 43 dX13_newSelector_13 kk_43 g13 (fun S13 e13 => ?_)
  have hq := md_l_e e13 hq
  clear e13
  show mv_rq l G mX13_newSelector d 14 [some (.ref m), some (.int x1), some (.int x2), some (.int x3), some (.int x4), some (.int x5), some (.int x6), some (.int (S.1 28))] [] (md_H G B m S13) _
  refine q_aload_n dX13_newSelector_14 rfl ?_
  refine r_geta 45 dX13_newSelector_15 fl_RX13_91 (by decide) rfl kk_45 ?_
  refine q_iload dX13_newSelector_18 rfl ?_
  refine q_iload_n dX13_newSelector_20 rfl ?_
  obtain ⟨g21, hq⟩ := md_g hq
  refine r_iast hG hm 45 dX13_newSelector_21 kk_45 g21 (fun S21 e21 => ?_)
  have hq := md_l_e e21 hq
  clear e21
  show mv_rq l G mX13_newSelector d 22 [some (.ref m), some (.int x1), some (.int x2), some (.int x3), some (.int x4), some (.int x5), some (.int x6), some (.int (S.1 28))] [] (md_H G B m S21) _
  refine q_aload_n dX13_newSelector_22 rfl ?_
  refine r_geta 46 dX13_newSelector_23 fl_RX13_94 (by decide) rfl kk_46 ?_
  refine q_iload dX13_newSelector_26 rfl ?_
  refine q_iload dX13_newSelector_28 rfl ?_
  obtain ⟨g30, hq⟩ := md_g hq
  refine r_iast hG hm 46 dX13_newSelector_30 kk_46 g30 (fun S30 e30 => ?_)
  have hq := md_l_e e30 hq
  clear e30
  show mv_rq l G mX13_newSelector d 31 [some (.ref m), some (.int x1), some (.int x2), some (.int x3), some (.int x4), some (.int x5), some (.int x6), some (.int (S.1 28))] [] (md_H G B m S30) _
  refine q_aload_n dX13_newSelector_31 rfl ?_
  refine r_geta 47 dX13_newSelector_32 fl_RX13_97 (by decide) rfl kk_47 ?_
  refine q_iload dX13_newSelector_35 rfl ?_
  refine q_iload dX13_newSelector_37 rfl ?_
  obtain ⟨g39, hq⟩ := md_g hq
  refine r_iast hG hm 47 dX13_newSelector_39 kk_47 g39 (fun S39 e39 => ?_)
  have hq := md_l_e e39 hq
  clear e39
  show mv_rq l G mX13_newSelector d 40 [some (.ref m), some (.int x1), some (.int x2), some (.int x3), some (.int x4), some (.int x5), some (.int x6), some (.int (S.1 28))] [] (md_H G B m S39) _
  refine q_aload_n dX13_newSelector_40 rfl ?_
  refine r_geta 48 dX13_newSelector_41 fl_RX13_100 (by decide) rfl kk_48 ?_
  refine q_iload dX13_newSelector_44 rfl ?_
  refine q_iload dX13_newSelector_46 rfl ?_
  obtain ⟨g48, hq⟩ := md_g hq
  refine r_iast hG hm 48 dX13_newSelector_48 kk_48 g48 (fun S48 e48 => ?_)
  have hq := md_l_e e48 hq
  clear e48
  show mv_rq l G mX13_newSelector d 49 [some (.ref m), some (.int x1), some (.int x2), some (.int x3), some (.int x4), some (.int x5), some (.int x6), some (.int (S.1 28))] [] (md_H G B m S48) _
  refine q_aload_n dX13_newSelector_49 rfl ?_
  refine r_geta 44 dX13_newSelector_50 fl_RX13_88 (by decide) rfl kk_44 ?_
  refine q_iload dX13_newSelector_53 rfl ?_
  refine q_iconst (v := (-1)) dX13_newSelector_55 (by decide) ?_
  obtain ⟨g56, hq⟩ := md_g hq
  refine r_iast hG hm 44 dX13_newSelector_56 kk_44 g56 (fun S56 e56 => ?_)
  have hq := md_l_e e56 hq
  clear e56
  show mv_rq l G mX13_newSelector d 57 [some (.ref m), some (.int x1), some (.int x2), some (.int x3), some (.int x4), some (.int x5), some (.int x6), some (.int (S.1 28))] [] (md_H G B m S56) _
  refine q_aload_n dX13_newSelector_57 rfl ?_
  refine r_geta 38 dX13_newSelector_58 fl_RX13_70 (by decide) rfl kk_38 ?_
  refine q_iload_n dX13_newSelector_61 rfl ?_
  obtain ⟨g62, hq⟩ := md_g hq
  refine r_iald hG 38 dX13_newSelector_62 kk_38 g62 ?_
  refine q_iconst (v := (-1)) dX13_newSelector_63 (by decide) ?_
  refine q_icmp_ne (tgt := 78) dX13_newSelector_64 (by decide) (fun c64 => ?_) (fun c64 => ?_)
  ·
    have hq := md_neg c64 hq
    refine q_aload_n dX13_newSelector_78 rfl ?_
    refine r_geta 44 dX13_newSelector_79 fl_RX13_88 (by decide) rfl kk_44 ?_
    refine q_aload_n dX13_newSelector_82 rfl ?_
    refine r_geta 39 dX13_newSelector_83 fl_RX13_73 (by decide) rfl kk_39 ?_
    refine q_iload_n dX13_newSelector_86 rfl ?_
    obtain ⟨g87, hq⟩ := md_g hq
    refine r_iald hG 39 dX13_newSelector_87 kk_39 g87 ?_
    refine q_iload dX13_newSelector_88 rfl ?_
    obtain ⟨g90, hq⟩ := md_g hq
    refine r_iast hG hm 44 dX13_newSelector_90 kk_44 g90 (fun S90 e90 => ?_)
    have hq := md_l_e e90 hq
    clear e90
    show mv_rq l G mX13_newSelector d 91 [some (.ref m), some (.int x1), some (.int x2), some (.int x3), some (.int x4), some (.int x5), some (.int x6), some (.int (S.1 28))] [] (md_H G B m S90) _
    refine mv_weak (A := [some (.ref m), some (.int x1), none, none, none, none, none, some (.int (S.1 28))]) (by repeat' constructor) ?_
    exact ro_newSelector_j91 hG hm hq
  ·
    have hq := md_pos c64 hq
    refine q_aload_n dX13_newSelector_67 rfl ?_
    refine r_geta 38 dX13_newSelector_68 fl_RX13_70 (by decide) rfl kk_38 ?_
    refine q_iload_n dX13_newSelector_71 rfl ?_
    refine q_iload dX13_newSelector_72 rfl ?_
    obtain ⟨g74, hq⟩ := md_g hq
    refine r_iast hG hm 38 dX13_newSelector_74 kk_38 g74 (fun S74 e74 => ?_)
    have hq := md_l_e e74 hq
    clear e74
    show mv_rq l G mX13_newSelector d 75 [some (.ref m), some (.int x1), some (.int x2), some (.int x3), some (.int x4), some (.int x5), some (.int x6), some (.int (S.1 28))] [] (md_H G B m S74) _
    refine q_goto (tgt := 91) dX13_newSelector_75 (by decide) ?_
    refine mv_weak (A := [some (.ref m), some (.int x1), none, none, none, none, none, some (.int (S.1 28))]) (by repeat' constructor) ?_
    exact ro_newSelector_j91 hG hm hq
def mo_emit_j73 (x1 : Int32) (x5 : Int32) (S : md_S) : Option md_S :=
  if md_in x1 50 then
  md_l (md_w S 50 x1.toNatClampNeg x5) fun S80 =>
  md_l (md_p S80 30 ((S80.1 30) + 1)) fun S88 =>
  some S88
  else none
theorem ro_emit_j73 {l : Launch} {G : mv_G} {B : mv_H} {m d : Nat} (hG : mv_ok G) (hm : G.2.2.1 ≤ m) {x1 : Int32} {x5 : Int32} {S : md_S} {q : md_S} (hq : mo_emit_j73 x1 x5 S = some q) : mv_rq l G mX13_emit d 73 [some (.ref m), some (.int x1), none, none, none, some (.int x5)] [] (md_H G B m S) (md_V G B m q) := by
  unfold mo_emit_j73 at hq
  refine q_aload_n dX13_emit_73 rfl ?_
  refine r_geta 50 dX13_emit_74 fl_RX13_106 (by decide) rfl kk_50 ?_
  refine q_iload_n dX13_emit_77 rfl ?_
  refine q_iload dX13_emit_78 rfl ?_
  obtain ⟨g80, hq⟩ := md_g hq
  refine r_iast hG hm 50 dX13_emit_80 kk_50 g80 (fun S80 e80 => ?_)
  have hq := md_l_e e80 hq
  clear e80
  show mv_rq l G mX13_emit d 81 [some (.ref m), some (.int x1), none, none, none, some (.int x5)] [] (md_H G B m S80) _
  refine q_aload_n dX13_emit_81 rfl ?_
  refine q_dup dX13_emit_82 rfl ?_
  refine r_geti 30 dX13_emit_83 fl_RX13_319 (by decide) rfl ki_30 ?_
  refine q_iconst (v := 1) dX13_emit_86 (by decide) ?_
  refine q_iadd dX13_emit_87 ?_
  refine r_puti 30 .int dX13_emit_88 fl_RX13_319 (by decide) rfl ki_30 rfl kp_30 rfl rfl hm (fun S88 e88 => ?_)
  have hq := md_l_e e88 hq
  clear e88
  show mv_rq l G mX13_emit d 91 [some (.ref m), some (.int x1), none, none, none, some (.int x5)] [] (md_H G B m S88) _
  obtain rfl := Option.some.inj hq
  exact q_vret dX13_emit_91 rfl ⟨rfl, rfl⟩
def mo_emit (x1 : Int32) (x2 : Int32) (x3 : Int32) (x4 : Int32) (S : md_S) : Option md_S :=
  if md_in (S.1 30) 170 then
  md_l (md_w S 51 (S.1 30).toNatClampNeg x2) fun S13 =>
  if md_in (S.1 30) 170 then
  md_l (md_w S13 52 (S.1 30).toNatClampNeg x3) fun S21 =>
  if md_in (S.1 30) 170 then
  md_l (md_w S21 53 (S.1 30).toNatClampNeg x4) fun S30 =>
  if md_in (S.1 30) 170 then
  md_l (md_w S30 54 (S.1 30).toNatClampNeg (-1)) fun S38 =>
  if md_in x1 50 then
  if (S38.2 49 x1.toNatClampNeg) = (-1) then
    if md_in x1 50 then
    md_l (md_w S38 49 x1.toNatClampNeg (S.1 30)) fun S56 =>
    mo_emit_j73 x1 (S.1 30) S56
    else none
  else
    if md_in x1 50 then
    if md_in (S38.2 50 x1.toNatClampNeg) 170 then
    md_l (md_w S38 54 (S38.2 50 x1.toNatClampNeg).toNatClampNeg (S.1 30)) fun S72 =>
    mo_emit_j73 x1 (S.1 30) S72
    else none
    else none
  else none
  else none
  else none
  else none
  else none
theorem ro_emit {l : Launch} {G : mv_G} {B : mv_H} {m d : Nat} (hG : mv_ok G) (hm : G.2.2.1 ≤ m) {x1 : Int32} {x2 : Int32} {x3 : Int32} {x4 : Int32} {S : md_S} {q : md_S} (hq : mo_emit x1 x2 x3 x4 S = some q) : mv_rq l G mX13_emit d 0 (mv_in [.ref m, .int x1, .int x2, .int x3, .int x4] 6) [] (md_H G B m S) (md_V G B m q) := by
  unfold mo_emit at hq
  show mv_rq l G mX13_emit d 0 [some (.ref m), some (.int x1), some (.int x2), some (.int x3), some (.int x4), none] [] (md_H G B m S) _
  refine q_aload_n dX13_emit_0 rfl ?_
  refine r_geti 30 dX13_emit_1 fl_RX13_319 (by decide) rfl ki_30 ?_
  refine q_istore dX13_emit_4 (Nat.le_of_ble_eq_true rfl) rfl ?_
  show mv_rq l G mX13_emit d 6 [some (.ref m), some (.int x1), some (.int x2), some (.int x3), some (.int x4), some (.int (S.1 30))] [] (md_H G B m S) _
  refine q_aload_n dX13_emit_6 rfl ?_
  refine r_geta 51 dX13_emit_7 fl_RX13_109 (by decide) rfl kk_51 ?_
  refine q_iload dX13_emit_10 rfl ?_
  refine q_iload_n dX13_emit_12 rfl ?_
  obtain ⟨g13, hq⟩ := md_g hq
  refine r_iast hG hm 51 dX13_emit_13 kk_51 g13 (fun S13 e13 => ?_)
  have hq := md_l_e e13 hq
  clear e13
  show mv_rq l G mX13_emit d 14 [some (.ref m), some (.int x1), some (.int x2), some (.int x3), some (.int x4), some (.int (S.1 30))] [] (md_H G B m S13) _
  refine q_aload_n dX13_emit_14 rfl ?_
  refine r_geta 52 dX13_emit_15 fl_RX13_112 (by decide) rfl kk_52 ?_
  refine q_iload dX13_emit_18 rfl ?_
  refine q_iload_n dX13_emit_20 rfl ?_
  obtain ⟨g21, hq⟩ := md_g hq
  refine r_iast hG hm 52 dX13_emit_21 kk_52 g21 (fun S21 e21 => ?_)
  have hq := md_l_e e21 hq
  clear e21
  show mv_rq l G mX13_emit d 22 [some (.ref m), some (.int x1), some (.int x2), some (.int x3), some (.int x4), some (.int (S.1 30))] [] (md_H G B m S21) _
  refine q_aload_n dX13_emit_22 rfl ?_
  refine r_geta 53 dX13_emit_23 fl_RX13_115 (by decide) rfl kk_53 ?_
  refine q_iload dX13_emit_26 rfl ?_
  refine q_iload dX13_emit_28 rfl ?_
  obtain ⟨g30, hq⟩ := md_g hq
  refine r_iast hG hm 53 dX13_emit_30 kk_53 g30 (fun S30 e30 => ?_)
  have hq := md_l_e e30 hq
  clear e30
  show mv_rq l G mX13_emit d 31 [some (.ref m), some (.int x1), some (.int x2), some (.int x3), some (.int x4), some (.int (S.1 30))] [] (md_H G B m S30) _
  refine q_aload_n dX13_emit_31 rfl ?_
  refine r_geta 54 dX13_emit_32 fl_RX13_118 (by decide) rfl kk_54 ?_
  refine q_iload dX13_emit_35 rfl ?_
  refine q_iconst (v := (-1)) dX13_emit_37 (by decide) ?_
  obtain ⟨g38, hq⟩ := md_g hq
  refine r_iast hG hm 54 dX13_emit_38 kk_54 g38 (fun S38 e38 => ?_)
  have hq := md_l_e e38 hq
  clear e38
  show mv_rq l G mX13_emit d 39 [some (.ref m), some (.int x1), some (.int x2), some (.int x3), some (.int x4), some (.int (S.1 30))] [] (md_H G B m S38) _
  refine q_aload_n dX13_emit_39 rfl ?_
  refine r_geta 49 dX13_emit_40 fl_RX13_103 (by decide) rfl kk_49 ?_
  refine q_iload_n dX13_emit_43 rfl ?_
  obtain ⟨g44, hq⟩ := md_g hq
  refine r_iald hG 49 dX13_emit_44 kk_49 g44 ?_
  refine q_iconst (v := (-1)) dX13_emit_45 (by decide) ?_
  refine q_icmp_ne (tgt := 60) dX13_emit_46 (by decide) (fun c46 => ?_) (fun c46 => ?_)
  ·
    have hq := md_neg c46 hq
    refine q_aload_n dX13_emit_60 rfl ?_
    refine r_geta 54 dX13_emit_61 fl_RX13_118 (by decide) rfl kk_54 ?_
    refine q_aload_n dX13_emit_64 rfl ?_
    refine r_geta 50 dX13_emit_65 fl_RX13_106 (by decide) rfl kk_50 ?_
    refine q_iload_n dX13_emit_68 rfl ?_
    obtain ⟨g69, hq⟩ := md_g hq
    refine r_iald hG 50 dX13_emit_69 kk_50 g69 ?_
    refine q_iload dX13_emit_70 rfl ?_
    obtain ⟨g72, hq⟩ := md_g hq
    refine r_iast hG hm 54 dX13_emit_72 kk_54 g72 (fun S72 e72 => ?_)
    have hq := md_l_e e72 hq
    clear e72
    show mv_rq l G mX13_emit d 73 [some (.ref m), some (.int x1), some (.int x2), some (.int x3), some (.int x4), some (.int (S.1 30))] [] (md_H G B m S72) _
    refine mv_weak (A := [some (.ref m), some (.int x1), none, none, none, some (.int (S.1 30))]) (by repeat' constructor) ?_
    exact ro_emit_j73 hG hm hq
  ·
    have hq := md_pos c46 hq
    refine q_aload_n dX13_emit_49 rfl ?_
    refine r_geta 49 dX13_emit_50 fl_RX13_103 (by decide) rfl kk_49 ?_
    refine q_iload_n dX13_emit_53 rfl ?_
    refine q_iload dX13_emit_54 rfl ?_
    obtain ⟨g56, hq⟩ := md_g hq
    refine r_iast hG hm 49 dX13_emit_56 kk_49 g56 (fun S56 e56 => ?_)
    have hq := md_l_e e56 hq
    clear e56
    show mv_rq l G mX13_emit d 57 [some (.ref m), some (.int x1), some (.int x2), some (.int x3), some (.int x4), some (.int (S.1 30))] [] (md_H G B m S56) _
    refine q_goto (tgt := 73) dX13_emit_57 (by decide) ?_
    refine mv_weak (A := [some (.ref m), some (.int x1), none, none, none, some (.int (S.1 30))]) (by repeat' constructor) ?_
    exact ro_emit_j73 hG hm hq
def mo_readMore_j104 (N : Nat) (x1 : Int32) (x3 : Int32) (S : md_S) : Option md_S :=
  md_l (md_p S 6 ((S.1 6) + 1)) fun S111 =>
  md_b (mo_newSegment x1 x3 S111) fun v119 S119 =>
  md_c (mo_push 1 v119 0 S119) fun S123 =>
  some S123
theorem ro_readMore_j104 {l : Launch} {G : mv_G} {B : mv_H} {m N d : Nat} (hG : mv_ok G) (hm : G.2.2.1 ≤ m) {x1 : Int32} {x3 : Int32} {S : md_S} {q : md_S} (hq : mo_readMore_j104 N x1 x3 S = some q) : mv_rq l G mX13_readMore (d + 2) 104 [some (.ref m), some (.int x1), none, some (.int x3), none, none] [] (md_H G B m S) (md_V G B m q) := by
  unfold mo_readMore_j104 at hq
  refine q_aload_n dX13_readMore_104 rfl ?_
  refine q_dup dX13_readMore_105 rfl ?_
  refine r_geti 6 dX13_readMore_106 fl_RX13_202 (by decide) rfl ki_6 ?_
  refine q_iconst (v := 1) dX13_readMore_109 (by decide) ?_
  refine q_iadd dX13_readMore_110 ?_
  refine r_puti 6 .int dX13_readMore_111 fl_RX13_202 (by decide) rfl ki_6 rfl kp_6 rfl rfl hm (fun S111 e111 => ?_)
  have hq := md_l_e e111 hq
  clear e111
  show mv_rq l G mX13_readMore (d + 2) 114 [some (.ref m), some (.int x1), none, some (.int x3), none, none] [] (md_H G B m S111) _
  refine q_aload_n dX13_readMore_114 rfl ?_
  refine q_iconst (v := 1) dX13_readMore_115 (by decide) ?_
  refine q_aload_n dX13_readMore_116 rfl ?_
  refine q_iload_n dX13_readMore_117 rfl ?_
  refine q_iload_n dX13_readMore_118 rfl ?_
  obtain ⟨v119, S119, e119, hq⟩ := md_b_e hq
  refine q_cV (Y := mX13_newSegment) (As := [.int x1, .int x3]) (st := [.int 1, .ref m]) (b := m) (ci := 15) vc_X13_newSegment dX13_readMore_119 ml_RX13_322 rfl md_obj rfl (Nat.le_of_ble_eq_true rfl) rfl (Nat.le_of_ble_eq_true rfl) (ro_newSegment (d := d + 1) hG hm e119) (fun v h1 hq1 => ?_) (fun E h1 hq1 => md_nQ hq1)
  obtain ⟨hv, rfl⟩ := hq1
  cases hv
  show mv_rq l G mX13_readMore (d + 2) 122 [some (.ref m), some (.int x1), none, some (.int x3), none, none] [.int v119, .int 1, .ref m] (md_H G B m S119) _
  refine q_iconst (v := 0) dX13_readMore_122 (by decide) ?_
  obtain ⟨S123, e123, hq⟩ := md_c_e hq
  refine q_cV (Y := mX13_push) (As := [.int 1, .int v119, .int 0]) (st := []) (b := m) (ci := 15) vc_X13_push dX13_readMore_123 ml_RX13_326 rfl md_obj rfl (Nat.le_of_ble_eq_true rfl) rfl (Nat.le_of_ble_eq_true rfl) (ro_push (d := d + 1) hG hm e123) (fun v h1 hq1 => ?_) (fun E h1 hq1 => md_nV hq1)
  obtain ⟨hv, rfl⟩ := hq1
  cases hv
  show mv_rq l G mX13_readMore (d + 2) 126 [some (.ref m), some (.int x1), none, some (.int x3), none, none] [] (md_H G B m S123) _
  obtain rfl := Option.some.inj hq
  exact q_vret dX13_readMore_126 rfl ⟨rfl, rfl⟩
def mo_readMore_j236 (N : Nat) (x1 : Int32) (x3 : Int32) (x5 : Int32) (S : md_S) : Option md_S :=
  md_b (mo_newSegment x1 x3 S) fun v240 S240 =>
  md_b (mo_newSelector v240 0 x5 ((S240.1 6) - x5) 0 0 S240) fun v255 S255 =>
  some S255
theorem ro_readMore_j236 {l : Launch} {G : mv_G} {B : mv_H} {m N d : Nat} (hG : mv_ok G) (hm : G.2.2.1 ≤ m) {x1 : Int32} {x3 : Int32} {x5 : Int32} {S : md_S} {q : md_S} (hq : mo_readMore_j236 N x1 x3 x5 S = some q) : mv_rq l G mX13_readMore (d + 2) 236 [some (.ref m), some (.int x1), none, some (.int x3), none, some (.int x5)] [] (md_H G B m S) (md_V G B m q) := by
  unfold mo_readMore_j236 at hq
  refine q_aload_n dX13_readMore_236 rfl ?_
  refine q_aload_n dX13_readMore_237 rfl ?_
  refine q_iload_n dX13_readMore_238 rfl ?_
  refine q_iload_n dX13_readMore_239 rfl ?_
  obtain ⟨v240, S240, e240, hq⟩ := md_b_e hq
  refine q_cV (Y := mX13_newSegment) (As := [.int x1, .int x3]) (st := [.ref m]) (b := m) (ci := 15) vc_X13_newSegment dX13_readMore_240 ml_RX13_322 rfl md_obj rfl (Nat.le_of_ble_eq_true rfl) rfl (Nat.le_of_ble_eq_true rfl) (ro_newSegment (d := d + 1) hG hm e240) (fun v h1 hq1 => ?_) (fun E h1 hq1 => md_nQ hq1)
  obtain ⟨hv, rfl⟩ := hq1
  cases hv
  show mv_rq l G mX13_readMore (d + 2) 243 [some (.ref m), some (.int x1), none, some (.int x3), none, some (.int x5)] [.int v240, .ref m] (md_H G B m S240) _
  refine q_iconst (v := 0) dX13_readMore_243 (by decide) ?_
  refine q_iload dX13_readMore_244 rfl ?_
  refine q_aload_n dX13_readMore_246 rfl ?_
  refine r_geti 6 dX13_readMore_247 fl_RX13_202 (by decide) rfl ki_6 ?_
  refine q_iload dX13_readMore_250 rfl ?_
  refine q_isub dX13_readMore_252 ?_
  refine q_iconst (v := 0) dX13_readMore_253 (by decide) ?_
  refine q_iconst (v := 0) dX13_readMore_254 (by decide) ?_
  obtain ⟨v255, S255, e255, hq⟩ := md_b_e hq
  refine q_cV (Y := mX13_newSelector) (As := [.int v240, .int 0, .int x5, .int ((S240.1 6) - x5), .int 0, .int 0]) (st := []) (b := m) (ci := 15) vc_X13_newSelector dX13_readMore_255 ml_RX13_330 rfl md_obj rfl (Nat.le_of_ble_eq_true rfl) rfl (Nat.le_of_ble_eq_true rfl) (ro_newSelector (d := d + 1) hG hm e255) (fun v h1 hq1 => ?_) (fun E h1 hq1 => md_nQ hq1)
  obtain ⟨hv, rfl⟩ := hq1
  cases hv
  show mv_rq l G mX13_readMore (d + 2) 258 [some (.ref m), some (.int x1), none, some (.int x3), none, some (.int x5)] [.int v255] (md_H G B m S255) _
  refine q_pop dX13_readMore_258 rfl ?_
  refine q_goto (tgt := 270) dX13_readMore_259 (by decide) ?_
  obtain rfl := Option.some.inj hq
  exact q_vret dX13_readMore_270 rfl ⟨rfl, rfl⟩
def mo_readMore_l184 (N : Nat) : Nat → Int32 → Int32 → Int32 → md_S → Option md_S
  | 0, _, _, _, _ => none
  | n + 1, x1, x3, x5, S =>
    md_b (mo_good S) fun v185 S185 =>
    if v185 = 0 then
      mo_readMore_j236 N x1 x3 x5 S185
    else
      md_b (mo_at (S185.1 6) S185) fun v196 S196 =>
      md_b (mo_isLetter v196 S196) fun v199 S199 =>
      if v199 = 0 then
        mo_readMore_j236 N x1 x3 x5 S199
      else
        if ((S199.1 6) - x5) = 8 then
          md_c (mo_fail x5 S199) fun S220 =>
          md_l (md_p S220 6 ((S220.1 6) + 1)) fun S230 =>
          mo_readMore_l184 N n x1 x3 x5 S230
        else
          md_l (md_p S199 6 ((S199.1 6) + 1)) fun S230 =>
          mo_readMore_l184 N n x1 x3 x5 S230
theorem ro_readMore_l184 {l : Launch} {G : mv_G} {B : mv_H} {m N d : Nat} (hG : mv_ok G) (hm : G.2.2.1 ≤ m) : ∀ n : Nat, ∀ {x1 : Int32} {x3 : Int32} {x5 : Int32} {S : md_S} {q : md_S}, mo_readMore_l184 N n x1 x3 x5 S = some q → mv_rq l G mX13_readMore (d + 2) 184 [some (.ref m), some (.int x1), none, some (.int x3), none, some (.int x5)] [] (md_H G B m S) (md_V G B m q)
  | 0, _, _, _, _, _, hq => nomatch hq
  | n + 1, x1, x3, x5, S, q, hq => by
    rw [mo_readMore_l184] at hq
    refine q_aload_n dX13_readMore_184 rfl ?_
    obtain ⟨v185, S185, e185, hq⟩ := md_b_e hq
    refine q_cV (Y := mX13_good) (As := []) (st := []) (b := m) (ci := 15) vc_X13_good dX13_readMore_185 ml_RX13_208 rfl md_obj rfl (Nat.le_of_ble_eq_true rfl) rfl (Nat.le_of_ble_eq_true rfl) (ro_good (d := d + 1) hG hm e185) (fun v h1 hq1 => ?_) (fun E h1 hq1 => md_nQ hq1)
    obtain ⟨hv, rfl⟩ := hq1
    cases hv
    show mv_rq l G mX13_readMore (d + 2) 188 [some (.ref m), some (.int x1), none, some (.int x3), none, some (.int x5)] [.int v185] (md_H G B m S185) _
    refine q_if_eq (tgt := 236) dX13_readMore_188 (by decide) (fun c188 => ?_) (fun c188 => ?_)
    ·
      have hq := md_pos c188 hq
      refine mv_weak (A := [some (.ref m), some (.int x1), none, some (.int x3), none, some (.int x5)]) (by repeat' constructor) ?_
      exact ro_readMore_j236 hG hm hq
    ·
      have hq := md_neg c188 hq
      refine q_aload_n dX13_readMore_191 rfl ?_
      refine q_aload_n dX13_readMore_192 rfl ?_
      refine r_geti 6 dX13_readMore_193 fl_RX13_202 (by decide) rfl ki_6 ?_
      obtain ⟨v196, S196, e196, hq⟩ := md_b_e hq
      refine q_cV (Y := mX13_at) (As := [.int (S185.1 6)]) (st := []) (b := m) (ci := 15) vc_X13_at dX13_readMore_196 ml_RX13_212 rfl md_obj rfl (Nat.le_of_ble_eq_true rfl) rfl (Nat.le_of_ble_eq_true rfl) (ro_at (d := d + 1) hG hm e196) (fun v h1 hq1 => ?_) (fun E h1 hq1 => md_nQ hq1)
      obtain ⟨hv, rfl⟩ := hq1
      cases hv
      show mv_rq l G mX13_readMore (d + 2) 199 [some (.ref m), some (.int x1), none, some (.int x3), none, some (.int x5)] [.int v196] (md_H G B m S196) _
      obtain ⟨v199, S199, e199, hq⟩ := md_b_e hq
      refine q_cS (Y := mX13_isLetter) (As := [.int v196]) (st := []) sc_X13_isLetter dX13_readMore_199 ml_RX13_334 rfl (Nat.le_of_ble_eq_true rfl) rfl (Nat.le_of_ble_eq_true rfl) (ro_isLetter (d := d + 1) hG hm e199) (fun v h1 hq1 => ?_) (fun E h1 hq1 => md_nQ hq1)
      obtain ⟨hv, rfl⟩ := hq1
      cases hv
      show mv_rq l G mX13_readMore (d + 2) 202 [some (.ref m), some (.int x1), none, some (.int x3), none, some (.int x5)] [.int v199] (md_H G B m S199) _
      refine q_if_eq (tgt := 236) dX13_readMore_202 (by decide) (fun c202 => ?_) (fun c202 => ?_)
      ·
        have hq := md_pos c202 hq
        refine mv_weak (A := [some (.ref m), some (.int x1), none, some (.int x3), none, some (.int x5)]) (by repeat' constructor) ?_
        exact ro_readMore_j236 hG hm hq
      ·
        have hq := md_neg c202 hq
        refine q_aload_n dX13_readMore_205 rfl ?_
        refine r_geti 6 dX13_readMore_206 fl_RX13_202 (by decide) rfl ki_6 ?_
        refine q_iload dX13_readMore_209 rfl ?_
        refine q_isub dX13_readMore_211 ?_
        refine q_bipush (v := 8) dX13_readMore_212 (by decide) ?_
        refine q_icmp_ne (tgt := 223) dX13_readMore_214 (by decide) (fun c214 => ?_) (fun c214 => ?_)
        ·
          have hq := md_neg c214 hq
          refine q_aload_n dX13_readMore_223 rfl ?_
          refine q_dup dX13_readMore_224 rfl ?_
          refine r_geti 6 dX13_readMore_225 fl_RX13_202 (by decide) rfl ki_6 ?_
          refine q_iconst (v := 1) dX13_readMore_228 (by decide) ?_
          refine q_iadd dX13_readMore_229 ?_
          refine r_puti 6 .int dX13_readMore_230 fl_RX13_202 (by decide) rfl ki_6 rfl kp_6 rfl rfl hm (fun S230 e230 => ?_)
          have hq := md_l_e e230 hq
          clear e230
          show mv_rq l G mX13_readMore (d + 2) 233 [some (.ref m), some (.int x1), none, some (.int x3), none, some (.int x5)] [] (md_H G B m S230) _
          refine q_goto (tgt := 184) dX13_readMore_233 (by decide) ?_
          refine mv_weak (A := [some (.ref m), some (.int x1), none, some (.int x3), none, some (.int x5)]) (by repeat' constructor) ?_
          exact ro_readMore_l184 hG hm n hq
        ·
          have hq := md_pos c214 hq
          refine q_aload_n dX13_readMore_217 rfl ?_
          refine q_iload dX13_readMore_218 rfl ?_
          obtain ⟨S220, e220, hq⟩ := md_c_e hq
          refine q_cV (Y := mX13_fail) (As := [.int x5]) (st := []) (b := m) (ci := 15) vc_X13_fail dX13_readMore_220 ml_RX13_216 rfl md_obj rfl (Nat.le_of_ble_eq_true rfl) rfl (Nat.le_of_ble_eq_true rfl) (ro_fail (d := d) hG hm e220) (fun v h1 hq1 => ?_) (fun E h1 hq1 => md_nV hq1)
          obtain ⟨hv, rfl⟩ := hq1
          cases hv
          show mv_rq l G mX13_readMore (d + 2) 223 [some (.ref m), some (.int x1), none, some (.int x3), none, some (.int x5)] [] (md_H G B m S220) _
          refine q_aload_n dX13_readMore_223 rfl ?_
          refine q_dup dX13_readMore_224 rfl ?_
          refine r_geti 6 dX13_readMore_225 fl_RX13_202 (by decide) rfl ki_6 ?_
          refine q_iconst (v := 1) dX13_readMore_228 (by decide) ?_
          refine q_iadd dX13_readMore_229 ?_
          refine r_puti 6 .int dX13_readMore_230 fl_RX13_202 (by decide) rfl ki_6 rfl kp_6 rfl rfl hm (fun S230 e230 => ?_)
          have hq := md_l_e e230 hq
          clear e230
          show mv_rq l G mX13_readMore (d + 2) 233 [some (.ref m), some (.int x1), none, some (.int x3), none, some (.int x5)] [] (md_H G B m S230) _
          refine q_goto (tgt := 184) dX13_readMore_233 (by decide) ?_
          refine mv_weak (A := [some (.ref m), some (.int x1), none, some (.int x3), none, some (.int x5)]) (by repeat' constructor) ?_
          exact ro_readMore_l184 hG hm n hq
def mo_readMore_j127 (N : Nat) (x1 : Int32) (x3 : Int32) (x4 : Int32) (S : md_S) : Option md_S :=
  md_c (mo_push 0 x1 0 S) fun S131 =>
  if x4 = 42 then
    md_l (md_p S131 6 ((S131.1 6) + 1)) fun S148 =>
    md_b (mo_newSegment x1 x3 S148) fun v155 S155 =>
    md_b (mo_newSelector v155 1 0 0 0 0 S155) fun v163 S163 =>
    some S163
  else
    md_b (mo_isLetter x4 S131) fun v172 S172 =>
    if v172 = 0 then
      md_c (mo_fail (S172.1 6) S172) fun S267 =>
      some S267
    else
      mo_readMore_l184 N N x1 x3 (S172.1 6) S172
theorem ro_readMore_j127 {l : Launch} {G : mv_G} {B : mv_H} {m N d : Nat} (hG : mv_ok G) (hm : G.2.2.1 ≤ m) {x1 : Int32} {x3 : Int32} {x4 : Int32} {S : md_S} {q : md_S} (hq : mo_readMore_j127 N x1 x3 x4 S = some q) : mv_rq l G mX13_readMore (d + 2) 127 [some (.ref m), some (.int x1), none, some (.int x3), some (.int x4), none] [] (md_H G B m S) (md_V G B m q) := by
  unfold mo_readMore_j127 at hq
  refine q_aload_n dX13_readMore_127 rfl ?_
  refine q_iconst (v := 0) dX13_readMore_128 (by decide) ?_
  refine q_iload_n dX13_readMore_129 rfl ?_
  refine q_iconst (v := 0) dX13_readMore_130 (by decide) ?_
  obtain ⟨S131, e131, hq⟩ := md_c_e hq
  refine q_cV (Y := mX13_push) (As := [.int 0, .int x1, .int 0]) (st := []) (b := m) (ci := 15) vc_X13_push dX13_readMore_131 ml_RX13_326 rfl md_obj rfl (Nat.le_of_ble_eq_true rfl) rfl (Nat.le_of_ble_eq_true rfl) (ro_push (d := d + 1) hG hm e131) (fun v h1 hq1 => ?_) (fun E h1 hq1 => md_nV hq1)
  obtain ⟨hv, rfl⟩ := hq1
  cases hv
  show mv_rq l G mX13_readMore (d + 2) 134 [some (.ref m), some (.int x1), none, some (.int x3), some (.int x4), none] [] (md_H G B m S131) _
  refine q_iload dX13_readMore_134 rfl ?_
  refine q_bipush (v := 42) dX13_readMore_136 (by decide) ?_
  refine q_icmp_ne (tgt := 170) dX13_readMore_138 (by decide) (fun c138 => ?_) (fun c138 => ?_)
  ·
    have hq := md_neg c138 hq
    refine q_iload dX13_readMore_170 rfl ?_
    obtain ⟨v172, S172, e172, hq⟩ := md_b_e hq
    refine q_cS (Y := mX13_isLetter) (As := [.int x4]) (st := []) sc_X13_isLetter dX13_readMore_172 ml_RX13_334 rfl (Nat.le_of_ble_eq_true rfl) rfl (Nat.le_of_ble_eq_true rfl) (ro_isLetter (d := d + 1) hG hm e172) (fun v h1 hq1 => ?_) (fun E h1 hq1 => md_nQ hq1)
    obtain ⟨hv, rfl⟩ := hq1
    cases hv
    show mv_rq l G mX13_readMore (d + 2) 175 [some (.ref m), some (.int x1), none, some (.int x3), some (.int x4), none] [.int v172] (md_H G B m S172) _
    refine q_if_eq (tgt := 262) dX13_readMore_175 (by decide) (fun c175 => ?_) (fun c175 => ?_)
    ·
      have hq := md_pos c175 hq
      refine q_aload_n dX13_readMore_262 rfl ?_
      refine q_aload_n dX13_readMore_263 rfl ?_
      refine r_geti 6 dX13_readMore_264 fl_RX13_202 (by decide) rfl ki_6 ?_
      obtain ⟨S267, e267, hq⟩ := md_c_e hq
      refine q_cV (Y := mX13_fail) (As := [.int (S172.1 6)]) (st := []) (b := m) (ci := 15) vc_X13_fail dX13_readMore_267 ml_RX13_216 rfl md_obj rfl (Nat.le_of_ble_eq_true rfl) rfl (Nat.le_of_ble_eq_true rfl) (ro_fail (d := d) hG hm e267) (fun v h1 hq1 => ?_) (fun E h1 hq1 => md_nV hq1)
      obtain ⟨hv, rfl⟩ := hq1
      cases hv
      show mv_rq l G mX13_readMore (d + 2) 270 [some (.ref m), some (.int x1), none, some (.int x3), some (.int x4), none] [] (md_H G B m S267) _
      obtain rfl := Option.some.inj hq
      exact q_vret dX13_readMore_270 rfl ⟨rfl, rfl⟩
    ·
      have hq := md_neg c175 hq
      refine q_aload_n dX13_readMore_178 rfl ?_
      refine r_geti 6 dX13_readMore_179 fl_RX13_202 (by decide) rfl ki_6 ?_
      refine q_istore dX13_readMore_182 (Nat.le_of_ble_eq_true rfl) rfl ?_
      show mv_rq l G mX13_readMore (d + 2) 184 [some (.ref m), some (.int x1), none, some (.int x3), some (.int x4), some (.int (S172.1 6))] [] (md_H G B m S172) _
      refine mv_weak (A := [some (.ref m), some (.int x1), none, some (.int x3), none, some (.int (S172.1 6))]) (by repeat' constructor) ?_
      exact ro_readMore_l184 hG hm N hq
  ·
    have hq := md_pos c138 hq
    refine q_aload_n dX13_readMore_141 rfl ?_
    refine q_dup dX13_readMore_142 rfl ?_
    refine r_geti 6 dX13_readMore_143 fl_RX13_202 (by decide) rfl ki_6 ?_
    refine q_iconst (v := 1) dX13_readMore_146 (by decide) ?_
    refine q_iadd dX13_readMore_147 ?_
    refine r_puti 6 .int dX13_readMore_148 fl_RX13_202 (by decide) rfl ki_6 rfl kp_6 rfl rfl hm (fun S148 e148 => ?_)
    have hq := md_l_e e148 hq
    clear e148
    show mv_rq l G mX13_readMore (d + 2) 151 [some (.ref m), some (.int x1), none, some (.int x3), some (.int x4), none] [] (md_H G B m S148) _
    refine q_aload_n dX13_readMore_151 rfl ?_
    refine q_aload_n dX13_readMore_152 rfl ?_
    refine q_iload_n dX13_readMore_153 rfl ?_
    refine q_iload_n dX13_readMore_154 rfl ?_
    obtain ⟨v155, S155, e155, hq⟩ := md_b_e hq
    refine q_cV (Y := mX13_newSegment) (As := [.int x1, .int x3]) (st := [.ref m]) (b := m) (ci := 15) vc_X13_newSegment dX13_readMore_155 ml_RX13_322 rfl md_obj rfl (Nat.le_of_ble_eq_true rfl) rfl (Nat.le_of_ble_eq_true rfl) (ro_newSegment (d := d + 1) hG hm e155) (fun v h1 hq1 => ?_) (fun E h1 hq1 => md_nQ hq1)
    obtain ⟨hv, rfl⟩ := hq1
    cases hv
    show mv_rq l G mX13_readMore (d + 2) 158 [some (.ref m), some (.int x1), none, some (.int x3), some (.int x4), none] [.int v155, .ref m] (md_H G B m S155) _
    refine q_iconst (v := 1) dX13_readMore_158 (by decide) ?_
    refine q_iconst (v := 0) dX13_readMore_159 (by decide) ?_
    refine q_iconst (v := 0) dX13_readMore_160 (by decide) ?_
    refine q_iconst (v := 0) dX13_readMore_161 (by decide) ?_
    refine q_iconst (v := 0) dX13_readMore_162 (by decide) ?_
    obtain ⟨v163, S163, e163, hq⟩ := md_b_e hq
    refine q_cV (Y := mX13_newSelector) (As := [.int v155, .int 1, .int 0, .int 0, .int 0, .int 0]) (st := []) (b := m) (ci := 15) vc_X13_newSelector dX13_readMore_163 ml_RX13_330 rfl md_obj rfl (Nat.le_of_ble_eq_true rfl) rfl (Nat.le_of_ble_eq_true rfl) (ro_newSelector (d := d + 1) hG hm e163) (fun v h1 hq1 => ?_) (fun E h1 hq1 => md_nQ hq1)
    obtain ⟨hv, rfl⟩ := hq1
    cases hv
    show mv_rq l G mX13_readMore (d + 2) 166 [some (.ref m), some (.int x1), none, some (.int x3), some (.int x4), none] [.int v163] (md_H G B m S163) _
    refine q_pop dX13_readMore_166 rfl ?_
    refine q_goto (tgt := 270) dX13_readMore_167 (by decide) ?_
    obtain rfl := Option.some.inj hq
    exact q_vret dX13_readMore_270 rfl ⟨rfl, rfl⟩
def mo_readMore_j73 (N : Nat) (x1 : Int32) (x2 : Int32) (x3 : Int32) (y0 : Int32) (y1 : Int32) (S : md_S) : Option md_S :=
  md_l (md_p S 6 (y1 + y0)) fun S74 =>
  md_b (mo_at (S74.1 6) S74) fun v82 S82 =>
  if v82 = 91 then
    if x3 = 0 then
      if x2 = 91 then
        mo_readMore_j104 N x1 x3 S82
      else
        mo_readMore_j127 N x1 x3 v82 S82
    else
      mo_readMore_j104 N x1 x3 S82
  else
    mo_readMore_j127 N x1 x3 v82 S82
theorem ro_readMore_j73 {l : Launch} {G : mv_G} {B : mv_H} {m N d : Nat} (hG : mv_ok G) (hm : G.2.2.1 ≤ m) {x1 : Int32} {x2 : Int32} {x3 : Int32} {y0 : Int32} {y1 : Int32} {S : md_S} {q : md_S} (hq : mo_readMore_j73 N x1 x2 x3 y0 y1 S = some q) : mv_rq l G mX13_readMore (d + 2) 73 [some (.ref m), some (.int x1), some (.int x2), some (.int x3), none, none] [.int y0, .int y1, .ref m] (md_H G B m S) (md_V G B m q) := by
  unfold mo_readMore_j73 at hq
  refine q_iadd dX13_readMore_73 ?_
  refine r_puti 6 .int dX13_readMore_74 fl_RX13_202 (by decide) rfl ki_6 rfl kp_6 rfl rfl hm (fun S74 e74 => ?_)
  have hq := md_l_e e74 hq
  clear e74
  show mv_rq l G mX13_readMore (d + 2) 77 [some (.ref m), some (.int x1), some (.int x2), some (.int x3), none, none] [] (md_H G B m S74) _
  refine q_aload_n dX13_readMore_77 rfl ?_
  refine q_aload_n dX13_readMore_78 rfl ?_
  refine r_geti 6 dX13_readMore_79 fl_RX13_202 (by decide) rfl ki_6 ?_
  obtain ⟨v82, S82, e82, hq⟩ := md_b_e hq
  refine q_cV (Y := mX13_at) (As := [.int (S74.1 6)]) (st := []) (b := m) (ci := 15) vc_X13_at dX13_readMore_82 ml_RX13_212 rfl md_obj rfl (Nat.le_of_ble_eq_true rfl) rfl (Nat.le_of_ble_eq_true rfl) (ro_at (d := d + 1) hG hm e82) (fun v h1 hq1 => ?_) (fun E h1 hq1 => md_nQ hq1)
  obtain ⟨hv, rfl⟩ := hq1
  cases hv
  show mv_rq l G mX13_readMore (d + 2) 85 [some (.ref m), some (.int x1), some (.int x2), some (.int x3), none, none] [.int v82] (md_H G B m S82) _
  refine q_istore dX13_readMore_85 (Nat.le_of_ble_eq_true rfl) rfl ?_
  show mv_rq l G mX13_readMore (d + 2) 87 [some (.ref m), some (.int x1), some (.int x2), some (.int x3), some (.int v82), none] [] (md_H G B m S82) _
  refine q_iload dX13_readMore_87 rfl ?_
  refine q_bipush (v := 91) dX13_readMore_89 (by decide) ?_
  refine q_icmp_ne (tgt := 127) dX13_readMore_91 (by decide) (fun c91 => ?_) (fun c91 => ?_)
  ·
    have hq := md_neg c91 hq
    refine mv_weak (A := [some (.ref m), some (.int x1), none, some (.int x3), some (.int v82), none]) (by repeat' constructor) ?_
    exact ro_readMore_j127 hG hm hq
  ·
    have hq := md_pos c91 hq
    refine q_iload_n dX13_readMore_94 rfl ?_
    refine q_if_ne (tgt := 104) dX13_readMore_95 (by decide) (fun c95 => ?_) (fun c95 => ?_)
    ·
      have hq := md_neg c95 hq
      refine mv_weak (A := [some (.ref m), some (.int x1), none, some (.int x3), none, none]) (by repeat' constructor) ?_
      exact ro_readMore_j104 hG hm hq
    ·
      have hq := md_pos c95 hq
      refine q_iload_n dX13_readMore_98 rfl ?_
      refine q_bipush (v := 91) dX13_readMore_99 (by decide) ?_
      refine q_icmp_ne (tgt := 127) dX13_readMore_101 (by decide) (fun c101 => ?_) (fun c101 => ?_)
      ·
        have hq := md_neg c101 hq
        refine mv_weak (A := [some (.ref m), some (.int x1), none, some (.int x3), some (.int v82), none]) (by repeat' constructor) ?_
        exact ro_readMore_j127 hG hm hq
      ·
        have hq := md_pos c101 hq
        refine mv_weak (A := [some (.ref m), some (.int x1), none, some (.int x3), none, none]) (by repeat' constructor) ?_
        exact ro_readMore_j104 hG hm hq
def mo_readMore_j48 (N : Nat) (x1 : Int32) (x2 : Int32) (y0 : Int32) (S : md_S) : Option md_S :=
  if y0 = 0 then
    if x2 = 46 then
      mo_readMore_j73 N x1 x2 y0 1 (S.1 6) S
    else
      mo_readMore_j73 N x1 x2 y0 0 (S.1 6) S
  else
    mo_readMore_j73 N x1 x2 y0 2 (S.1 6) S
theorem ro_readMore_j48 {l : Launch} {G : mv_G} {B : mv_H} {m N d : Nat} (hG : mv_ok G) (hm : G.2.2.1 ≤ m) {x1 : Int32} {x2 : Int32} {y0 : Int32} {S : md_S} {q : md_S} (hq : mo_readMore_j48 N x1 x2 y0 S = some q) : mv_rq l G mX13_readMore (d + 2) 48 [some (.ref m), some (.int x1), some (.int x2), none, none, none] [.int y0] (md_H G B m S) (md_V G B m q) := by
  unfold mo_readMore_j48 at hq
  refine q_istore_n dX13_readMore_48 (Nat.le_of_ble_eq_true rfl) rfl ?_
  show mv_rq l G mX13_readMore (d + 2) 49 [some (.ref m), some (.int x1), some (.int x2), some (.int y0), none, none] [] (md_H G B m S) _
  refine q_aload_n dX13_readMore_49 rfl ?_
  refine q_dup dX13_readMore_50 rfl ?_
  refine r_geti 6 dX13_readMore_51 fl_RX13_202 (by decide) rfl ki_6 ?_
  refine q_iload_n dX13_readMore_54 rfl ?_
  refine q_if_eq (tgt := 62) dX13_readMore_55 (by decide) (fun c55 => ?_) (fun c55 => ?_)
  ·
    have hq := md_pos c55 hq
    refine q_iload_n dX13_readMore_62 rfl ?_
    refine q_bipush (v := 46) dX13_readMore_63 (by decide) ?_
    refine q_icmp_ne (tgt := 72) dX13_readMore_65 (by decide) (fun c65 => ?_) (fun c65 => ?_)
    ·
      have hq := md_neg c65 hq
      refine q_iconst (v := 0) dX13_readMore_72 (by decide) ?_
      refine mv_weak (A := [some (.ref m), some (.int x1), some (.int x2), some (.int y0), none, none]) (by repeat' constructor) ?_
      exact ro_readMore_j73 hG hm hq
    ·
      have hq := md_pos c65 hq
      refine q_iconst (v := 1) dX13_readMore_68 (by decide) ?_
      refine q_goto (tgt := 73) dX13_readMore_69 (by decide) ?_
      refine mv_weak (A := [some (.ref m), some (.int x1), some (.int x2), some (.int y0), none, none]) (by repeat' constructor) ?_
      exact ro_readMore_j73 hG hm hq
  ·
    have hq := md_neg c55 hq
    refine q_iconst (v := 2) dX13_readMore_58 (by decide) ?_
    refine q_goto (tgt := 73) dX13_readMore_59 (by decide) ?_
    refine mv_weak (A := [some (.ref m), some (.int x1), some (.int x2), some (.int y0), none, none]) (by repeat' constructor) ?_
    exact ro_readMore_j73 hG hm hq
def mo_readMore_j47 (N : Nat) (x1 : Int32) (x2 : Int32) (S : md_S) : Option md_S :=
  mo_readMore_j48 N x1 x2 0 S
theorem ro_readMore_j47 {l : Launch} {G : mv_G} {B : mv_H} {m N d : Nat} (hG : mv_ok G) (hm : G.2.2.1 ≤ m) {x1 : Int32} {x2 : Int32} {S : md_S} {q : md_S} (hq : mo_readMore_j47 N x1 x2 S = some q) : mv_rq l G mX13_readMore (d + 2) 47 [some (.ref m), some (.int x1), some (.int x2), none, none, none] [] (md_H G B m S) (md_V G B m q) := by
  unfold mo_readMore_j47 at hq
  refine q_iconst (v := 0) dX13_readMore_47 (by decide) ?_
  refine mv_weak (A := [some (.ref m), some (.int x1), some (.int x2), none, none, none]) (by repeat' constructor) ?_
  exact ro_readMore_j48 hG hm hq
def mo_readMore_j22 (N : Nat) (x1 : Int32) (x2 : Int32) (S : md_S) : Option md_S :=
  if x2 = 46 then
    md_b (mo_at ((S.1 6) + 1) S) fun v35 S35 =>
    if v35 = 46 then
      mo_readMore_j48 N x1 x2 1 S35
    else
      mo_readMore_j47 N x1 x2 S35
  else
    mo_readMore_j47 N x1 x2 S
theorem ro_readMore_j22 {l : Launch} {G : mv_G} {B : mv_H} {m N d : Nat} (hG : mv_ok G) (hm : G.2.2.1 ≤ m) {x1 : Int32} {x2 : Int32} {S : md_S} {q : md_S} (hq : mo_readMore_j22 N x1 x2 S = some q) : mv_rq l G mX13_readMore (d + 2) 22 [some (.ref m), some (.int x1), some (.int x2), none, none, none] [] (md_H G B m S) (md_V G B m q) := by
  unfold mo_readMore_j22 at hq
  refine q_iload_n dX13_readMore_22 rfl ?_
  refine q_bipush (v := 46) dX13_readMore_23 (by decide) ?_
  refine q_icmp_ne (tgt := 47) dX13_readMore_25 (by decide) (fun c25 => ?_) (fun c25 => ?_)
  ·
    have hq := md_neg c25 hq
    refine mv_weak (A := [some (.ref m), some (.int x1), some (.int x2), none, none, none]) (by repeat' constructor) ?_
    exact ro_readMore_j47 hG hm hq
  ·
    have hq := md_pos c25 hq
    refine q_aload_n dX13_readMore_28 rfl ?_
    refine q_aload_n dX13_readMore_29 rfl ?_
    refine r_geti 6 dX13_readMore_30 fl_RX13_202 (by decide) rfl ki_6 ?_
    refine q_iconst (v := 1) dX13_readMore_33 (by decide) ?_
    refine q_iadd dX13_readMore_34 ?_
    obtain ⟨v35, S35, e35, hq⟩ := md_b_e hq
    refine q_cV (Y := mX13_at) (As := [.int ((S.1 6) + 1)]) (st := []) (b := m) (ci := 15) vc_X13_at dX13_readMore_35 ml_RX13_212 rfl md_obj rfl (Nat.le_of_ble_eq_true rfl) rfl (Nat.le_of_ble_eq_true rfl) (ro_at (d := d + 1) hG hm e35) (fun v h1 hq1 => ?_) (fun E h1 hq1 => md_nQ hq1)
    obtain ⟨hv, rfl⟩ := hq1
    cases hv
    show mv_rq l G mX13_readMore (d + 2) 38 [some (.ref m), some (.int x1), some (.int x2), none, none, none] [.int v35] (md_H G B m S35) _
    refine q_bipush (v := 46) dX13_readMore_38 (by decide) ?_
    refine q_icmp_ne (tgt := 47) dX13_readMore_40 (by decide) (fun c40 => ?_) (fun c40 => ?_)
    ·
      have hq := md_neg c40 hq
      refine mv_weak (A := [some (.ref m), some (.int x1), some (.int x2), none, none, none]) (by repeat' constructor) ?_
      exact ro_readMore_j47 hG hm hq
    ·
      have hq := md_pos c40 hq
      refine q_iconst (v := 1) dX13_readMore_43 (by decide) ?_
      refine q_goto (tgt := 48) dX13_readMore_44 (by decide) ?_
      refine mv_weak (A := [some (.ref m), some (.int x1), some (.int x2), none, none, none]) (by repeat' constructor) ?_
      exact ro_readMore_j48 hG hm hq
def mo_readMore (N : Nat) (x1 : Int32) (S : md_S) : Option md_S :=
  md_b (mo_at (S.1 6) S) fun v5 S5 =>
  if v5 = 46 then
    mo_readMore_j22 N x1 v5 S5
  else
    if v5 = 91 then
      mo_readMore_j22 N x1 v5 S5
    else
      some S5
theorem ro_readMore {l : Launch} {G : mv_G} {B : mv_H} {m N d : Nat} (hG : mv_ok G) (hm : G.2.2.1 ≤ m) {x1 : Int32} {S : md_S} {q : md_S} (hq : mo_readMore N x1 S = some q) : mv_rq l G mX13_readMore (d + 2) 0 (mv_in [.ref m, .int x1] 6) [] (md_H G B m S) (md_V G B m q) := by
  unfold mo_readMore at hq
  show mv_rq l G mX13_readMore (d + 2) 0 [some (.ref m), some (.int x1), none, none, none, none] [] (md_H G B m S) _
  refine q_aload_n dX13_readMore_0 rfl ?_
  refine q_aload_n dX13_readMore_1 rfl ?_
  refine r_geti 6 dX13_readMore_2 fl_RX13_202 (by decide) rfl ki_6 ?_
  obtain ⟨v5, S5, e5, hq⟩ := md_b_e hq
  refine q_cV (Y := mX13_at) (As := [.int (S.1 6)]) (st := []) (b := m) (ci := 15) vc_X13_at dX13_readMore_5 ml_RX13_212 rfl md_obj rfl (Nat.le_of_ble_eq_true rfl) rfl (Nat.le_of_ble_eq_true rfl) (ro_at (d := d + 1) hG hm e5) (fun v h1 hq1 => ?_) (fun E h1 hq1 => md_nQ hq1)
  obtain ⟨hv, rfl⟩ := hq1
  cases hv
  show mv_rq l G mX13_readMore (d + 2) 8 [some (.ref m), some (.int x1), none, none, none, none] [.int v5] (md_H G B m S5) _
  refine q_istore_n dX13_readMore_8 (Nat.le_of_ble_eq_true rfl) rfl ?_
  show mv_rq l G mX13_readMore (d + 2) 9 [some (.ref m), some (.int x1), some (.int v5), none, none, none] [] (md_H G B m S5) _
  refine q_iload_n dX13_readMore_9 rfl ?_
  refine q_bipush (v := 46) dX13_readMore_10 (by decide) ?_
  refine q_icmp_eq (tgt := 22) dX13_readMore_12 (by decide) (fun c12 => ?_) (fun c12 => ?_)
  ·
    have hq := md_pos c12 hq
    refine mv_weak (A := [some (.ref m), some (.int x1), some (.int v5), none, none, none]) (by repeat' constructor) ?_
    exact ro_readMore_j22 hG hm hq
  ·
    have hq := md_neg c12 hq
    refine q_iload_n dX13_readMore_15 rfl ?_
    refine q_bipush (v := 91) dX13_readMore_16 (by decide) ?_
    refine q_icmp_eq (tgt := 22) dX13_readMore_18 (by decide) (fun c18 => ?_) (fun c18 => ?_)
    ·
      have hq := md_pos c18 hq
      refine mv_weak (A := [some (.ref m), some (.int x1), some (.int v5), none, none, none]) (by repeat' constructor) ?_
      exact ro_readMore_j22 hG hm hq
    ·
      have hq := md_neg c18 hq
      obtain rfl := Option.some.inj hq
      exact q_vret dX13_readMore_21 rfl ⟨rfl, rfl⟩
def mo_isNumberNext_j32 (y0 : Int32) (S : md_S) : Option (Int32 × md_S) :=
  if md_bo y0 then
  some (y0, S)
  else none
theorem ro_isNumberNext_j32 {l : Launch} {G : mv_G} {B : mv_H} {m d : Nat} (hG : mv_ok G) (hm : G.2.2.1 ≤ m) {y0 : Int32} {S : md_S} {q : (Int32 × md_S)} (hq : mo_isNumberNext_j32 y0 S = some q) : mv_rq l G mX13_isNumberNext (d + 1) 32 [none] [.int y0] (md_H G B m S) (md_Q G B m q) := by
  unfold mo_isNumberNext_j32 at hq
  obtain ⟨g32, hq⟩ := md_g hq
  obtain rfl := Option.some.inj hq
  exact q_iret (ty := .boolean) dX13_isNumberNext_32 rfl (md_bnar g32) ⟨rfl, rfl⟩
def mo_isNumberNext_j27 (S : md_S) : Option (Int32 × md_S) :=
  mo_isNumberNext_j32 1 S
theorem ro_isNumberNext_j27 {l : Launch} {G : mv_G} {B : mv_H} {m d : Nat} (hG : mv_ok G) (hm : G.2.2.1 ≤ m) {S : md_S} {q : (Int32 × md_S)} (hq : mo_isNumberNext_j27  S = some q) : mv_rq l G mX13_isNumberNext (d + 1) 27 [none] [] (md_H G B m S) (md_Q G B m q) := by
  unfold mo_isNumberNext_j27 at hq
  refine q_iconst (v := 1) dX13_isNumberNext_27 (by decide) ?_
  refine q_goto (tgt := 32) dX13_isNumberNext_28 (by decide) ?_
  refine mv_weak (A := [none]) (by repeat' constructor) ?_
  exact ro_isNumberNext_j32 hG hm hq
def mo_isNumberNext (S : md_S) : Option (Int32 × md_S) :=
  md_b (mo_at (S.1 6) S) fun v5 S5 =>
  if v5 = 45 then
    mo_isNumberNext_j27  S5
  else
    md_b (mo_at (S5.1 6) S5) fun v18 S18 =>
    md_b (mo_isDigit v18 S18) fun v21 S21 =>
    if v21 = 0 then
      mo_isNumberNext_j32 0 S21
    else
      mo_isNumberNext_j27  S21
theorem ro_isNumberNext {l : Launch} {G : mv_G} {B : mv_H} {m d : Nat} (hG : mv_ok G) (hm : G.2.2.1 ≤ m) {S : md_S} {q : (Int32 × md_S)} (hq : mo_isNumberNext S = some q) : mv_rq l G mX13_isNumberNext (d + 1) 0 (mv_in [.ref m] 1) [] (md_H G B m S) (md_Q G B m q) := by
  unfold mo_isNumberNext at hq
  show mv_rq l G mX13_isNumberNext (d + 1) 0 [some (.ref m)] [] (md_H G B m S) _
  refine q_aload_n dX13_isNumberNext_0 rfl ?_
  refine q_aload_n dX13_isNumberNext_1 rfl ?_
  refine r_geti 6 dX13_isNumberNext_2 fl_RX13_202 (by decide) rfl ki_6 ?_
  obtain ⟨v5, S5, e5, hq⟩ := md_b_e hq
  refine q_cV (Y := mX13_at) (As := [.int (S.1 6)]) (st := []) (b := m) (ci := 15) vc_X13_at dX13_isNumberNext_5 ml_RX13_212 rfl md_obj rfl (Nat.le_of_ble_eq_true rfl) rfl (Nat.le_of_ble_eq_true rfl) (ro_at (d := d) hG hm e5) (fun v h1 hq1 => ?_) (fun E h1 hq1 => md_nQ hq1)
  obtain ⟨hv, rfl⟩ := hq1
  cases hv
  show mv_rq l G mX13_isNumberNext (d + 1) 8 [some (.ref m)] [.int v5] (md_H G B m S5) _
  refine q_bipush (v := 45) dX13_isNumberNext_8 (by decide) ?_
  refine q_icmp_eq (tgt := 27) dX13_isNumberNext_10 (by decide) (fun c10 => ?_) (fun c10 => ?_)
  ·
    have hq := md_pos c10 hq
    refine mv_weak (A := [none]) (by repeat' constructor) ?_
    exact ro_isNumberNext_j27 hG hm hq
  ·
    have hq := md_neg c10 hq
    refine q_aload_n dX13_isNumberNext_13 rfl ?_
    refine q_aload_n dX13_isNumberNext_14 rfl ?_
    refine r_geti 6 dX13_isNumberNext_15 fl_RX13_202 (by decide) rfl ki_6 ?_
    obtain ⟨v18, S18, e18, hq⟩ := md_b_e hq
    refine q_cV (Y := mX13_at) (As := [.int (S5.1 6)]) (st := []) (b := m) (ci := 15) vc_X13_at dX13_isNumberNext_18 ml_RX13_212 rfl md_obj rfl (Nat.le_of_ble_eq_true rfl) rfl (Nat.le_of_ble_eq_true rfl) (ro_at (d := d) hG hm e18) (fun v h1 hq1 => ?_) (fun E h1 hq1 => md_nQ hq1)
    obtain ⟨hv, rfl⟩ := hq1
    cases hv
    show mv_rq l G mX13_isNumberNext (d + 1) 21 [some (.ref m)] [.int v18] (md_H G B m S18) _
    obtain ⟨v21, S21, e21, hq⟩ := md_b_e hq
    refine q_cS (Y := mX13_isDigit) (As := [.int v18]) (st := []) sc_X13_isDigit dX13_isNumberNext_21 ml_RX13_231 rfl (Nat.le_of_ble_eq_true rfl) rfl (Nat.le_of_ble_eq_true rfl) (ro_isDigit (d := d) hG hm e21) (fun v h1 hq1 => ?_) (fun E h1 hq1 => md_nQ hq1)
    obtain ⟨hv, rfl⟩ := hq1
    cases hv
    show mv_rq l G mX13_isNumberNext (d + 1) 24 [some (.ref m)] [.int v21] (md_H G B m S21) _
    refine q_if_eq (tgt := 31) dX13_isNumberNext_24 (by decide) (fun c24 => ?_) (fun c24 => ?_)
    ·
      have hq := md_pos c24 hq
      refine q_iconst (v := 0) dX13_isNumberNext_31 (by decide) ?_
      refine mv_weak (A := [none]) (by repeat' constructor) ?_
      exact ro_isNumberNext_j32 hG hm hq
    ·
      have hq := md_neg c24 hq
      refine mv_weak (A := [none]) (by repeat' constructor) ?_
      exact ro_isNumberNext_j27 hG hm hq
def mo_readPlaces_j133 (N : Nat) (x1 : Int32) (x2 : Int32) (x3 : Int32) (x4 : Int32) (x5 : Int32) (S : md_S) : Option md_S :=
  md_b (mo_newSelector x1 3 x3 x4 x5 x2 S) fun v142 S142 =>
  some S142
theorem ro_readPlaces_j133 {l : Launch} {G : mv_G} {B : mv_H} {m N d : Nat} (hG : mv_ok G) (hm : G.2.2.1 ≤ m) {x1 : Int32} {x2 : Int32} {x3 : Int32} {x4 : Int32} {x5 : Int32} {S : md_S} {q : md_S} (hq : mo_readPlaces_j133 N x1 x2 x3 x4 x5 S = some q) : mv_rq l G mX13_readPlaces (d + 3) 133 [some (.ref m), some (.int x1), some (.int x2), some (.int x3), some (.int x4), some (.int x5)] [] (md_H G B m S) (md_V G B m q) := by
  unfold mo_readPlaces_j133 at hq
  refine q_aload_n dX13_readPlaces_133 rfl ?_
  refine q_iload_n dX13_readPlaces_134 rfl ?_
  refine q_iconst (v := 3) dX13_readPlaces_135 (by decide) ?_
  refine q_iload_n dX13_readPlaces_136 rfl ?_
  refine q_iload dX13_readPlaces_137 rfl ?_
  refine q_iload dX13_readPlaces_139 rfl ?_
  refine q_iload_n dX13_readPlaces_141 rfl ?_
  obtain ⟨v142, S142, e142, hq⟩ := md_b_e hq
  refine q_cV (Y := mX13_newSelector) (As := [.int x1, .int 3, .int x3, .int x4, .int x5, .int x2]) (st := []) (b := m) (ci := 15) vc_X13_newSelector dX13_readPlaces_142 ml_RX13_330 rfl md_obj rfl (Nat.le_of_ble_eq_true rfl) rfl (Nat.le_of_ble_eq_true rfl) (ro_newSelector (d := d + 2) hG hm e142) (fun v h1 hq1 => ?_) (fun E h1 hq1 => md_nQ hq1)
  obtain ⟨hv, rfl⟩ := hq1
  cases hv
  show mv_rq l G mX13_readPlaces (d + 3) 145 [some (.ref m), some (.int x1), some (.int x2), some (.int x3), some (.int x4), some (.int x5)] [.int v142] (md_H G B m S142) _
  refine q_pop dX13_readPlaces_145 rfl ?_
  obtain rfl := Option.some.inj hq
  exact q_vret dX13_readPlaces_146 rfl ⟨rfl, rfl⟩
def mo_readPlaces_j131 (N : Nat) (x1 : Int32) (x2 : Int32) (x3 : Int32) (x4 : Int32) (y0 : Int32) (S : md_S) : Option md_S :=
  mo_readPlaces_j133 N x1 x2 x3 x4 y0 S
theorem ro_readPlaces_j131 {l : Launch} {G : mv_G} {B : mv_H} {m N d : Nat} (hG : mv_ok G) (hm : G.2.2.1 ≤ m) {x1 : Int32} {x2 : Int32} {x3 : Int32} {x4 : Int32} {y0 : Int32} {S : md_S} {q : md_S} (hq : mo_readPlaces_j131 N x1 x2 x3 x4 y0 S = some q) : mv_rq l G mX13_readPlaces (d + 3) 131 [some (.ref m), some (.int x1), some (.int x2), some (.int x3), some (.int x4), none] [.int y0] (md_H G B m S) (md_V G B m q) := by
  unfold mo_readPlaces_j131 at hq
  refine q_istore dX13_readPlaces_131 (Nat.le_of_ble_eq_true rfl) rfl ?_
  show mv_rq l G mX13_readPlaces (d + 3) 133 [some (.ref m), some (.int x1), some (.int x2), some (.int x3), some (.int x4), some (.int y0)] [] (md_H G B m S) _
  refine mv_weak (A := [some (.ref m), some (.int x1), some (.int x2), some (.int x3), some (.int x4), some (.int y0)]) (by repeat' constructor) ?_
  exact ro_readPlaces_j133 hG hm hq
def mo_readPlaces_j85 (N : Nat) (x1 : Int32) (x2 : Int32) (x3 : Int32) (x4 : Int32) (x5 : Int32) (S : md_S) : Option md_S :=
  md_b (mo_good S) fun v86 S86 =>
  if v86 = 0 then
    mo_readPlaces_j133 N x1 x2 x3 x4 x5 S86
  else
    md_b (mo_at (S86.1 6) S86) fun v97 S97 =>
    if v97 = 58 then
      md_l (md_p S97 6 ((S97.1 6) + 1)) fun S112 =>
      md_b (mo_isNumberNext S112) fun v116 S116 =>
      if v116 = 0 then
        mo_readPlaces_j131 N x1 x2 x3 x4 1 S116
      else
        md_b (mo_readNumber N 3 S116) fun v124 S124 =>
        mo_readPlaces_j131 N x1 x2 x3 x4 v124 S124
    else
      mo_readPlaces_j133 N x1 x2 x3 x4 x5 S97
theorem ro_readPlaces_j85 {l : Launch} {G : mv_G} {B : mv_H} {m N d : Nat} (hG : mv_ok G) (hm : G.2.2.1 ≤ m) {x1 : Int32} {x2 : Int32} {x3 : Int32} {x4 : Int32} {x5 : Int32} {S : md_S} {q : md_S} (hq : mo_readPlaces_j85 N x1 x2 x3 x4 x5 S = some q) : mv_rq l G mX13_readPlaces (d + 3) 85 [some (.ref m), some (.int x1), some (.int x2), some (.int x3), some (.int x4), some (.int x5)] [] (md_H G B m S) (md_V G B m q) := by
  unfold mo_readPlaces_j85 at hq
  refine q_aload_n dX13_readPlaces_85 rfl ?_
  obtain ⟨v86, S86, e86, hq⟩ := md_b_e hq
  refine q_cV (Y := mX13_good) (As := []) (st := []) (b := m) (ci := 15) vc_X13_good dX13_readPlaces_86 ml_RX13_208 rfl md_obj rfl (Nat.le_of_ble_eq_true rfl) rfl (Nat.le_of_ble_eq_true rfl) (ro_good (d := d + 2) hG hm e86) (fun v h1 hq1 => ?_) (fun E h1 hq1 => md_nQ hq1)
  obtain ⟨hv, rfl⟩ := hq1
  cases hv
  show mv_rq l G mX13_readPlaces (d + 3) 89 [some (.ref m), some (.int x1), some (.int x2), some (.int x3), some (.int x4), some (.int x5)] [.int v86] (md_H G B m S86) _
  refine q_if_eq (tgt := 133) dX13_readPlaces_89 (by decide) (fun c89 => ?_) (fun c89 => ?_)
  ·
    have hq := md_pos c89 hq
    refine mv_weak (A := [some (.ref m), some (.int x1), some (.int x2), some (.int x3), some (.int x4), some (.int x5)]) (by repeat' constructor) ?_
    exact ro_readPlaces_j133 hG hm hq
  ·
    have hq := md_neg c89 hq
    refine q_aload_n dX13_readPlaces_92 rfl ?_
    refine q_aload_n dX13_readPlaces_93 rfl ?_
    refine r_geti 6 dX13_readPlaces_94 fl_RX13_202 (by decide) rfl ki_6 ?_
    obtain ⟨v97, S97, e97, hq⟩ := md_b_e hq
    refine q_cV (Y := mX13_at) (As := [.int (S86.1 6)]) (st := []) (b := m) (ci := 15) vc_X13_at dX13_readPlaces_97 ml_RX13_212 rfl md_obj rfl (Nat.le_of_ble_eq_true rfl) rfl (Nat.le_of_ble_eq_true rfl) (ro_at (d := d + 2) hG hm e97) (fun v h1 hq1 => ?_) (fun E h1 hq1 => md_nQ hq1)
    obtain ⟨hv, rfl⟩ := hq1
    cases hv
    show mv_rq l G mX13_readPlaces (d + 3) 100 [some (.ref m), some (.int x1), some (.int x2), some (.int x3), some (.int x4), some (.int x5)] [.int v97] (md_H G B m S97) _
    refine q_bipush (v := 58) dX13_readPlaces_100 (by decide) ?_
    refine q_icmp_ne (tgt := 133) dX13_readPlaces_102 (by decide) (fun c102 => ?_) (fun c102 => ?_)
    ·
      have hq := md_neg c102 hq
      refine mv_weak (A := [some (.ref m), some (.int x1), some (.int x2), some (.int x3), some (.int x4), some (.int x5)]) (by repeat' constructor) ?_
      exact ro_readPlaces_j133 hG hm hq
    ·
      have hq := md_pos c102 hq
      refine q_aload_n dX13_readPlaces_105 rfl ?_
      refine q_dup dX13_readPlaces_106 rfl ?_
      refine r_geti 6 dX13_readPlaces_107 fl_RX13_202 (by decide) rfl ki_6 ?_
      refine q_iconst (v := 1) dX13_readPlaces_110 (by decide) ?_
      refine q_iadd dX13_readPlaces_111 ?_
      refine r_puti 6 .int dX13_readPlaces_112 fl_RX13_202 (by decide) rfl ki_6 rfl kp_6 rfl rfl hm (fun S112 e112 => ?_)
      have hq := md_l_e e112 hq
      clear e112
      show mv_rq l G mX13_readPlaces (d + 3) 115 [some (.ref m), some (.int x1), some (.int x2), some (.int x3), some (.int x4), some (.int x5)] [] (md_H G B m S112) _
      refine q_aload_n dX13_readPlaces_115 rfl ?_
      obtain ⟨v116, S116, e116, hq⟩ := md_b_e hq
      refine q_cV (Y := mX13_isNumberNext) (As := []) (st := []) (b := m) (ci := 15) vc_X13_isNumberNext dX13_readPlaces_116 ml_RX13_337 rfl md_obj rfl (Nat.le_of_ble_eq_true rfl) rfl (Nat.le_of_ble_eq_true rfl) (ro_isNumberNext (d := d + 1) hG hm e116) (fun v h1 hq1 => ?_) (fun E h1 hq1 => md_nQ hq1)
      obtain ⟨hv, rfl⟩ := hq1
      cases hv
      show mv_rq l G mX13_readPlaces (d + 3) 119 [some (.ref m), some (.int x1), some (.int x2), some (.int x3), some (.int x4), some (.int x5)] [.int v116] (md_H G B m S116) _
      refine q_if_eq (tgt := 130) dX13_readPlaces_119 (by decide) (fun c119 => ?_) (fun c119 => ?_)
      ·
        have hq := md_pos c119 hq
        refine q_iconst (v := 1) dX13_readPlaces_130 (by decide) ?_
        refine mv_weak (A := [some (.ref m), some (.int x1), some (.int x2), some (.int x3), some (.int x4), none]) (by repeat' constructor) ?_
        exact ro_readPlaces_j131 hG hm hq
      ·
        have hq := md_neg c119 hq
        refine q_aload_n dX13_readPlaces_122 rfl ?_
        refine q_iconst (v := 3) dX13_readPlaces_123 (by decide) ?_
        obtain ⟨v124, S124, e124, hq⟩ := md_b_e hq
        refine q_cV (Y := mX13_readNumber) (As := [.int 3]) (st := []) (b := m) (ci := 15) vc_X13_readNumber dX13_readPlaces_124 ml_RX13_255 rfl md_obj rfl (Nat.le_of_ble_eq_true rfl) rfl (Nat.le_of_ble_eq_true rfl) (ro_readNumber (d := d) hG hm e124) (fun v h1 hq1 => ?_) (fun E h1 hq1 => md_nQ hq1)
        obtain ⟨hv, rfl⟩ := hq1
        cases hv
        show mv_rq l G mX13_readPlaces (d + 3) 127 [some (.ref m), some (.int x1), some (.int x2), some (.int x3), some (.int x4), some (.int x5)] [.int v124] (md_H G B m S124) _
        refine q_goto (tgt := 131) dX13_readPlaces_127 (by decide) ?_
        refine mv_weak (A := [some (.ref m), some (.int x1), some (.int x2), some (.int x3), some (.int x4), none]) (by repeat' constructor) ?_
        exact ro_readPlaces_j131 hG hm hq
def mo_readPlaces_j25 (N : Nat) (x1 : Int32) (x2 : Int32) (x3 : Int32) (x4 : Int32) (x5 : Int32) (S : md_S) : Option md_S :=
  md_b (mo_good S) fun v26 S26 =>
  if v26 = 0 then
    some S26
  else
    md_b (mo_at (S26.1 6) S26) fun v38 S38 =>
    if v38 = 58 then
      md_l (md_p S38 6 ((S38.1 6) + 1)) fun S65 =>
      md_b (mo_isNumberNext S65) fun v69 S69 =>
      if v69 = 0 then
        mo_readPlaces_j85 N x1 x2 x3 x4 x5 S69
      else
        md_b (mo_readNumber N 3 S69) fun v77 S77 =>
        mo_readPlaces_j85 N x1 (x2 + 2) x3 v77 x5 S77
    else
      md_b (mo_newSelector x1 2 x3 0 0 0 S38) fun v53 S53 =>
      some S53
theorem ro_readPlaces_j25 {l : Launch} {G : mv_G} {B : mv_H} {m N d : Nat} (hG : mv_ok G) (hm : G.2.2.1 ≤ m) {x1 : Int32} {x2 : Int32} {x3 : Int32} {x4 : Int32} {x5 : Int32} {S : md_S} {q : md_S} (hq : mo_readPlaces_j25 N x1 x2 x3 x4 x5 S = some q) : mv_rq l G mX13_readPlaces (d + 3) 25 [some (.ref m), some (.int x1), some (.int x2), some (.int x3), some (.int x4), some (.int x5)] [] (md_H G B m S) (md_V G B m q) := by
  unfold mo_readPlaces_j25 at hq
  refine q_aload_n dX13_readPlaces_25 rfl ?_
  obtain ⟨v26, S26, e26, hq⟩ := md_b_e hq
  refine q_cV (Y := mX13_good) (As := []) (st := []) (b := m) (ci := 15) vc_X13_good dX13_readPlaces_26 ml_RX13_208 rfl md_obj rfl (Nat.le_of_ble_eq_true rfl) rfl (Nat.le_of_ble_eq_true rfl) (ro_good (d := d + 2) hG hm e26) (fun v h1 hq1 => ?_) (fun E h1 hq1 => md_nQ hq1)
  obtain ⟨hv, rfl⟩ := hq1
  cases hv
  show mv_rq l G mX13_readPlaces (d + 3) 29 [some (.ref m), some (.int x1), some (.int x2), some (.int x3), some (.int x4), some (.int x5)] [.int v26] (md_H G B m S26) _
  refine q_if_ne (tgt := 33) dX13_readPlaces_29 (by decide) (fun c29 => ?_) (fun c29 => ?_)
  ·
    have hq := md_neg c29 hq
    refine q_aload_n dX13_readPlaces_33 rfl ?_
    refine q_aload_n dX13_readPlaces_34 rfl ?_
    refine r_geti 6 dX13_readPlaces_35 fl_RX13_202 (by decide) rfl ki_6 ?_
    obtain ⟨v38, S38, e38, hq⟩ := md_b_e hq
    refine q_cV (Y := mX13_at) (As := [.int (S26.1 6)]) (st := []) (b := m) (ci := 15) vc_X13_at dX13_readPlaces_38 ml_RX13_212 rfl md_obj rfl (Nat.le_of_ble_eq_true rfl) rfl (Nat.le_of_ble_eq_true rfl) (ro_at (d := d + 2) hG hm e38) (fun v h1 hq1 => ?_) (fun E h1 hq1 => md_nQ hq1)
    obtain ⟨hv, rfl⟩ := hq1
    cases hv
    show mv_rq l G mX13_readPlaces (d + 3) 41 [some (.ref m), some (.int x1), some (.int x2), some (.int x3), some (.int x4), some (.int x5)] [.int v38] (md_H G B m S38) _
    refine q_bipush (v := 58) dX13_readPlaces_41 (by decide) ?_
    refine q_icmp_eq (tgt := 58) dX13_readPlaces_43 (by decide) (fun c43 => ?_) (fun c43 => ?_)
    ·
      have hq := md_pos c43 hq
      refine q_aload_n dX13_readPlaces_58 rfl ?_
      refine q_dup dX13_readPlaces_59 rfl ?_
      refine r_geti 6 dX13_readPlaces_60 fl_RX13_202 (by decide) rfl ki_6 ?_
      refine q_iconst (v := 1) dX13_readPlaces_63 (by decide) ?_
      refine q_iadd dX13_readPlaces_64 ?_
      refine r_puti 6 .int dX13_readPlaces_65 fl_RX13_202 (by decide) rfl ki_6 rfl kp_6 rfl rfl hm (fun S65 e65 => ?_)
      have hq := md_l_e e65 hq
      clear e65
      show mv_rq l G mX13_readPlaces (d + 3) 68 [some (.ref m), some (.int x1), some (.int x2), some (.int x3), some (.int x4), some (.int x5)] [] (md_H G B m S65) _
      refine q_aload_n dX13_readPlaces_68 rfl ?_
      obtain ⟨v69, S69, e69, hq⟩ := md_b_e hq
      refine q_cV (Y := mX13_isNumberNext) (As := []) (st := []) (b := m) (ci := 15) vc_X13_isNumberNext dX13_readPlaces_69 ml_RX13_337 rfl md_obj rfl (Nat.le_of_ble_eq_true rfl) rfl (Nat.le_of_ble_eq_true rfl) (ro_isNumberNext (d := d + 1) hG hm e69) (fun v h1 hq1 => ?_) (fun E h1 hq1 => md_nQ hq1)
      obtain ⟨hv, rfl⟩ := hq1
      cases hv
      show mv_rq l G mX13_readPlaces (d + 3) 72 [some (.ref m), some (.int x1), some (.int x2), some (.int x3), some (.int x4), some (.int x5)] [.int v69] (md_H G B m S69) _
      refine q_if_eq (tgt := 85) dX13_readPlaces_72 (by decide) (fun c72 => ?_) (fun c72 => ?_)
      ·
        have hq := md_pos c72 hq
        refine mv_weak (A := [some (.ref m), some (.int x1), some (.int x2), some (.int x3), some (.int x4), some (.int x5)]) (by repeat' constructor) ?_
        exact ro_readPlaces_j85 hG hm hq
      ·
        have hq := md_neg c72 hq
        refine q_aload_n dX13_readPlaces_75 rfl ?_
        refine q_iconst (v := 3) dX13_readPlaces_76 (by decide) ?_
        obtain ⟨v77, S77, e77, hq⟩ := md_b_e hq
        refine q_cV (Y := mX13_readNumber) (As := [.int 3]) (st := []) (b := m) (ci := 15) vc_X13_readNumber dX13_readPlaces_77 ml_RX13_255 rfl md_obj rfl (Nat.le_of_ble_eq_true rfl) rfl (Nat.le_of_ble_eq_true rfl) (ro_readNumber (d := d) hG hm e77) (fun v h1 hq1 => ?_) (fun E h1 hq1 => md_nQ hq1)
        obtain ⟨hv, rfl⟩ := hq1
        cases hv
        show mv_rq l G mX13_readPlaces (d + 3) 80 [some (.ref m), some (.int x1), some (.int x2), some (.int x3), some (.int x4), some (.int x5)] [.int v77] (md_H G B m S77) _
        refine q_istore dX13_readPlaces_80 (Nat.le_of_ble_eq_true rfl) rfl ?_
        show mv_rq l G mX13_readPlaces (d + 3) 82 [some (.ref m), some (.int x1), some (.int x2), some (.int x3), some (.int v77), some (.int x5)] [] (md_H G B m S77) _
        refine q_iinc dX13_readPlaces_82 rfl rfl ?_
        show mv_rq l G mX13_readPlaces (d + 3) 85 [some (.ref m), some (.int x1), some (.int (x2 + 2)), some (.int x3), some (.int v77), some (.int x5)] [] (md_H G B m S77) _
        refine mv_weak (A := [some (.ref m), some (.int x1), some (.int (x2 + 2)), some (.int x3), some (.int v77), some (.int x5)]) (by repeat' constructor) ?_
        exact ro_readPlaces_j85 hG hm hq
    ·
      have hq := md_neg c43 hq
      refine q_aload_n dX13_readPlaces_46 rfl ?_
      refine q_iload_n dX13_readPlaces_47 rfl ?_
      refine q_iconst (v := 2) dX13_readPlaces_48 (by decide) ?_
      refine q_iload_n dX13_readPlaces_49 rfl ?_
      refine q_iconst (v := 0) dX13_readPlaces_50 (by decide) ?_
      refine q_iconst (v := 0) dX13_readPlaces_51 (by decide) ?_
      refine q_iconst (v := 0) dX13_readPlaces_52 (by decide) ?_
      obtain ⟨v53, S53, e53, hq⟩ := md_b_e hq
      refine q_cV (Y := mX13_newSelector) (As := [.int x1, .int 2, .int x3, .int 0, .int 0, .int 0]) (st := []) (b := m) (ci := 15) vc_X13_newSelector dX13_readPlaces_53 ml_RX13_330 rfl md_obj rfl (Nat.le_of_ble_eq_true rfl) rfl (Nat.le_of_ble_eq_true rfl) (ro_newSelector (d := d + 2) hG hm e53) (fun v h1 hq1 => ?_) (fun E h1 hq1 => md_nQ hq1)
      obtain ⟨hv, rfl⟩ := hq1
      cases hv
      show mv_rq l G mX13_readPlaces (d + 3) 56 [some (.ref m), some (.int x1), some (.int x2), some (.int x3), some (.int x4), some (.int x5)] [.int v53] (md_H G B m S53) _
      refine q_pop dX13_readPlaces_56 rfl ?_
      obtain rfl := Option.some.inj hq
      exact q_vret dX13_readPlaces_57 rfl ⟨rfl, rfl⟩
  ·
    have hq := md_pos c29 hq
    obtain rfl := Option.some.inj hq
    exact q_vret dX13_readPlaces_32 rfl ⟨rfl, rfl⟩
def mo_readPlaces (N : Nat) (x1 : Int32) (S : md_S) : Option md_S :=
  md_b (mo_isNumberNext S) fun v11 S11 =>
  if v11 = 0 then
    mo_readPlaces_j25 N x1 0 0 0 1 S11
  else
    md_b (mo_readNumber N 3 S11) fun v19 S19 =>
    mo_readPlaces_j25 N x1 1 v19 0 1 S19
theorem ro_readPlaces {l : Launch} {G : mv_G} {B : mv_H} {m N d : Nat} (hG : mv_ok G) (hm : G.2.2.1 ≤ m) {x1 : Int32} {S : md_S} {q : md_S} (hq : mo_readPlaces N x1 S = some q) : mv_rq l G mX13_readPlaces (d + 3) 0 (mv_in [.ref m, .int x1] 6) [] (md_H G B m S) (md_V G B m q) := by
  unfold mo_readPlaces at hq
  show mv_rq l G mX13_readPlaces (d + 3) 0 [some (.ref m), some (.int x1), none, none, none, none] [] (md_H G B m S) _
  refine q_iconst (v := 0) dX13_readPlaces_0 (by decide) ?_
  refine q_istore_n dX13_readPlaces_1 (Nat.le_of_ble_eq_true rfl) rfl ?_
  show mv_rq l G mX13_readPlaces (d + 3) 2 [some (.ref m), some (.int x1), some (.int 0), none, none, none] [] (md_H G B m S) _
  refine q_iconst (v := 0) dX13_readPlaces_2 (by decide) ?_
  refine q_istore_n dX13_readPlaces_3 (Nat.le_of_ble_eq_true rfl) rfl ?_
  show mv_rq l G mX13_readPlaces (d + 3) 4 [some (.ref m), some (.int x1), some (.int 0), some (.int 0), none, none] [] (md_H G B m S) _
  refine q_iconst (v := 0) dX13_readPlaces_4 (by decide) ?_
  refine q_istore dX13_readPlaces_5 (Nat.le_of_ble_eq_true rfl) rfl ?_
  show mv_rq l G mX13_readPlaces (d + 3) 7 [some (.ref m), some (.int x1), some (.int 0), some (.int 0), some (.int 0), none] [] (md_H G B m S) _
  refine q_iconst (v := 1) dX13_readPlaces_7 (by decide) ?_
  refine q_istore dX13_readPlaces_8 (Nat.le_of_ble_eq_true rfl) rfl ?_
  show mv_rq l G mX13_readPlaces (d + 3) 10 [some (.ref m), some (.int x1), some (.int 0), some (.int 0), some (.int 0), some (.int 1)] [] (md_H G B m S) _
  refine q_aload_n dX13_readPlaces_10 rfl ?_
  obtain ⟨v11, S11, e11, hq⟩ := md_b_e hq
  refine q_cV (Y := mX13_isNumberNext) (As := []) (st := []) (b := m) (ci := 15) vc_X13_isNumberNext dX13_readPlaces_11 ml_RX13_337 rfl md_obj rfl (Nat.le_of_ble_eq_true rfl) rfl (Nat.le_of_ble_eq_true rfl) (ro_isNumberNext (d := d + 1) hG hm e11) (fun v h1 hq1 => ?_) (fun E h1 hq1 => md_nQ hq1)
  obtain ⟨hv, rfl⟩ := hq1
  cases hv
  show mv_rq l G mX13_readPlaces (d + 3) 14 [some (.ref m), some (.int x1), some (.int 0), some (.int 0), some (.int 0), some (.int 1)] [.int v11] (md_H G B m S11) _
  refine q_if_eq (tgt := 25) dX13_readPlaces_14 (by decide) (fun c14 => ?_) (fun c14 => ?_)
  ·
    have hq := md_pos c14 hq
    refine mv_weak (A := [some (.ref m), some (.int x1), some (.int 0), some (.int 0), some (.int 0), some (.int 1)]) (by repeat' constructor) ?_
    exact ro_readPlaces_j25 hG hm hq
  ·
    have hq := md_neg c14 hq
    refine q_aload_n dX13_readPlaces_17 rfl ?_
    refine q_iconst (v := 3) dX13_readPlaces_18 (by decide) ?_
    obtain ⟨v19, S19, e19, hq⟩ := md_b_e hq
    refine q_cV (Y := mX13_readNumber) (As := [.int 3]) (st := []) (b := m) (ci := 15) vc_X13_readNumber dX13_readPlaces_19 ml_RX13_255 rfl md_obj rfl (Nat.le_of_ble_eq_true rfl) rfl (Nat.le_of_ble_eq_true rfl) (ro_readNumber (d := d) hG hm e19) (fun v h1 hq1 => ?_) (fun E h1 hq1 => md_nQ hq1)
    obtain ⟨hv, rfl⟩ := hq1
    cases hv
    show mv_rq l G mX13_readPlaces (d + 3) 22 [some (.ref m), some (.int x1), some (.int 0), some (.int 0), some (.int 0), some (.int 1)] [.int v19] (md_H G B m S19) _
    refine q_istore_n dX13_readPlaces_22 (Nat.le_of_ble_eq_true rfl) rfl ?_
    show mv_rq l G mX13_readPlaces (d + 3) 23 [some (.ref m), some (.int x1), some (.int 0), some (.int v19), some (.int 0), some (.int 1)] [] (md_H G B m S19) _
    refine q_iconst (v := 1) dX13_readPlaces_23 (by decide) ?_
    refine q_istore_n dX13_readPlaces_24 (Nat.le_of_ble_eq_true rfl) rfl ?_
    show mv_rq l G mX13_readPlaces (d + 3) 25 [some (.ref m), some (.int x1), some (.int 1), some (.int v19), some (.int 0), some (.int 1)] [] (md_H G B m S19) _
    refine mv_weak (A := [some (.ref m), some (.int x1), some (.int 1), some (.int v19), some (.int 0), some (.int 1)]) (by repeat' constructor) ?_
    exact ro_readPlaces_j25 hG hm hq
