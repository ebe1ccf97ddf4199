theorem dX13_isSame_0 : decode cX13_isSame 0 = .ok (.iload_n 3, 1) := by decide +kernel
theorem dX13_isSame_1 : decode cX13_isSame 1 = .ok (.iload 6, 2) := by decide +kernel
theorem dX13_isSame_3 : decode cX13_isSame 3 = .ok (.if_icmp .ne 7, 3) := by decide +kernel
theorem dX13_isSame_6 : decode cX13_isSame 6 = .ok (.iconst 1, 1) := by decide +kernel
theorem dX13_isSame_7 : decode cX13_isSame 7 = .ok (.goto 4, 3) := by decide +kernel
theorem dX13_isSame_10 : decode cX13_isSame 10 = .ok (.iconst 0, 1) := by decide +kernel
theorem dX13_isSame_11 : decode cX13_isSame 11 = .ok (.istore 7, 2) := by decide +kernel
theorem dX13_isSame_13 : decode cX13_isSame 13 = .ok (.iconst 0, 1) := by decide +kernel
theorem dX13_isSame_14 : decode cX13_isSame 14 = .ok (.istore 8, 2) := by decide +kernel
theorem dX13_isSame_16 : decode cX13_isSame 16 = .ok (.iload 8, 2) := by decide +kernel
theorem dX13_isSame_18 : decode cX13_isSame 18 = .ok (.iload_n 3, 1) := by decide +kernel
theorem dX13_isSame_19 : decode cX13_isSame 19 = .ok (.if_icmp .ge 38, 3) := by decide +kernel
theorem dX13_isSame_22 : decode cX13_isSame 22 = .ok (.iload 7, 2) := by decide +kernel
theorem dX13_isSame_24 : decode cX13_isSame 24 = .ok (.ifCond .eq 33, 3) := by decide +kernel
theorem dX13_isSame_27 : decode cX13_isSame 27 = .ok (.aload_n 1, 1) := by decide +kernel
theorem dX13_isSame_28 : decode cX13_isSame 28 = .ok (.iload_n 2, 1) := by decide +kernel
theorem dX13_isSame_29 : decode cX13_isSame 29 = .ok (.iload 8, 2) := by decide +kernel
theorem dX13_isSame_31 : decode cX13_isSame 31 = .ok (.iadd, 1) := by decide +kernel
theorem dX13_isSame_32 : decode cX13_isSame 32 = .ok (.baload, 1) := by decide +kernel
theorem dX13_isSame_33 : decode cX13_isSame 33 = .ok (.aload 4, 2) := by decide +kernel
theorem dX13_isSame_35 : decode cX13_isSame 35 = .ok (.iload 5, 2) := by decide +kernel
theorem dX13_isSame_37 : decode cX13_isSame 37 = .ok (.iload 8, 2) := by decide +kernel
theorem dX13_isSame_39 : decode cX13_isSame 39 = .ok (.iadd, 1) := by decide +kernel
theorem dX13_isSame_40 : decode cX13_isSame 40 = .ok (.baload, 1) := by decide +kernel
theorem dX13_isSame_41 : decode cX13_isSame 41 = .ok (.if_icmp .ne 7, 3) := by decide +kernel
theorem dX13_isSame_44 : decode cX13_isSame 44 = .ok (.iconst 1, 1) := by decide +kernel
theorem dX13_isSame_45 : decode cX13_isSame 45 = .ok (.goto 4, 3) := by decide +kernel
theorem dX13_isSame_48 : decode cX13_isSame 48 = .ok (.iconst 0, 1) := by decide +kernel
theorem dX13_isSame_49 : decode cX13_isSame 49 = .ok (.istore 7, 2) := by decide +kernel
theorem dX13_isSame_51 : decode cX13_isSame 51 = .ok (.iinc 8 1, 3) := by decide +kernel
theorem dX13_isSame_54 : decode cX13_isSame 54 = .ok (.goto (-38), 3) := by decide +kernel
theorem dX13_isSame_57 : decode cX13_isSame 57 = .ok (.iload 7, 2) := by decide +kernel
theorem dX13_isSame_59 : decode cX13_isSame 59 = .ok (.ireturn, 1) := by decide +kernel
theorem dX13_readName_0 : decode cX13_readName 0 = .ok (.aload_n 0, 1) := by decide +kernel
theorem dX13_readName_1 : decode cX13_readName 1 = .ok (.getfield 202, 3) := by decide +kernel
theorem dX13_readName_4 : decode cX13_readName 4 = .ok (.istore_n 1, 1) := by decide +kernel
theorem dX13_readName_5 : decode cX13_readName 5 = .ok (.aload_n 0, 1) := by decide +kernel
theorem dX13_readName_6 : decode cX13_readName 6 = .ok (.aload_n 0, 1) := by decide +kernel
theorem dX13_readName_7 : decode cX13_readName 7 = .ok (.getfield 202, 3) := by decide +kernel
theorem dX13_readName_10 : decode cX13_readName 10 = .ok (.invokevirtual 212, 3) := by decide +kernel
theorem dX13_readName_13 : decode cX13_readName 13 = .ok (.bipush 34, 2) := by decide +kernel
theorem dX13_readName_15 : decode cX13_readName 15 = .ok (.if_icmp .eq 12, 3) := by decide +kernel
theorem dX13_readName_18 : decode cX13_readName 18 = .ok (.aload_n 0, 1) := by decide +kernel
theorem dX13_readName_19 : decode cX13_readName 19 = .ok (.aload_n 0, 1) := by decide +kernel
theorem dX13_readName_20 : decode cX13_readName 20 = .ok (.getfield 202, 3) := by decide +kernel
theorem dX13_readName_23 : decode cX13_readName 23 = .ok (.invokevirtual 216, 3) := by decide +kernel
theorem dX13_readName_26 : decode cX13_readName 26 = .ok (.return_, 1) := by decide +kernel
theorem dX13_readName_27 : decode cX13_readName 27 = .ok (.aload_n 0, 1) := by decide +kernel
theorem dX13_readName_28 : decode cX13_readName 28 = .ok (.bipush 34, 2) := by decide +kernel
theorem dX13_readName_30 : decode cX13_readName 30 = .ok (.bipush 92, 2) := by decide +kernel
theorem dX13_readName_32 : decode cX13_readName 32 = .ok (.invokevirtual 251, 3) := by decide +kernel
theorem dX13_readName_35 : decode cX13_readName 35 = .ok (.aload_n 0, 1) := by decide +kernel
theorem dX13_readName_36 : decode cX13_readName 36 = .ok (.invokevirtual 208, 3) := by decide +kernel
theorem dX13_readName_39 : decode cX13_readName 39 = .ok (.ifCond .ne 4, 3) := by decide +kernel
theorem dX13_readName_42 : decode cX13_readName 42 = .ok (.return_, 1) := by decide +kernel
theorem dX13_readName_43 : decode cX13_readName 43 = .ok (.iconst 0, 1) := by decide +kernel
theorem dX13_readName_44 : decode cX13_readName 44 = .ok (.istore_n 2, 1) := by decide +kernel
theorem dX13_readName_45 : decode cX13_readName 45 = .ok (.iload_n 2, 1) := by decide +kernel
theorem dX13_readName_46 : decode cX13_readName 46 = .ok (.aload_n 0, 1) := by decide +kernel
theorem dX13_readName_47 : decode cX13_readName 47 = .ok (.getfield 238, 3) := by decide +kernel
theorem dX13_readName_50 : decode cX13_readName 50 = .ok (.if_icmp .ge 62, 3) := by decide +kernel
theorem dX13_readName_53 : decode cX13_readName 53 = .ok (.aload_n 0, 1) := by decide +kernel
theorem dX13_readName_54 : decode cX13_readName 54 = .ok (.getfield 27, 3) := by decide +kernel
theorem dX13_readName_57 : decode cX13_readName 57 = .ok (.iload_n 2, 1) := by decide +kernel
theorem dX13_readName_58 : decode cX13_readName 58 = .ok (.iaload, 1) := by decide +kernel
theorem dX13_readName_59 : decode cX13_readName 59 = .ok (.aload_n 0, 1) := by decide +kernel
theorem dX13_readName_60 : decode cX13_readName 60 = .ok (.invokevirtual 241, 3) := by decide +kernel
theorem dX13_readName_63 : decode cX13_readName 63 = .ok (.if_icmp .ne 43, 3) := by decide +kernel
theorem dX13_readName_66 : decode cX13_readName 66 = .ok (.aload_n 0, 1) := by decide +kernel
theorem dX13_readName_67 : decode cX13_readName 67 = .ok (.aload_n 0, 1) := by decide +kernel
theorem dX13_readName_68 : decode cX13_readName 68 = .ok (.getfield 17, 3) := by decide +kernel
theorem dX13_readName_71 : decode cX13_readName 71 = .ok (.aload_n 0, 1) := by decide +kernel
theorem dX13_readName_72 : decode cX13_readName 72 = .ok (.getfield 42, 3) := by decide +kernel
theorem dX13_readName_75 : decode cX13_readName 75 = .ok (.iload_n 2, 1) := by decide +kernel
theorem dX13_readName_76 : decode cX13_readName 76 = .ok (.iaload, 1) := by decide +kernel
theorem dX13_readName_77 : decode cX13_readName 77 = .ok (.aload_n 0, 1) := by decide +kernel
theorem dX13_readName_78 : decode cX13_readName 78 = .ok (.getfield 45, 3) := by decide +kernel
theorem dX13_readName_81 : decode cX13_readName 81 = .ok (.iload_n 2, 1) := by decide +kernel
theorem dX13_readName_82 : decode cX13_readName 82 = .ok (.iaload, 1) := by decide +kernel
theorem dX13_readName_83 : decode cX13_readName 83 = .ok (.aload_n 0, 1) := by decide +kernel
theorem dX13_readName_84 : decode cX13_readName 84 = .ok (.getfield 17, 3) := by decide +kernel
theorem dX13_readName_87 : decode cX13_readName 87 = .ok (.aload_n 0, 1) := by decide +kernel
theorem dX13_readName_88 : decode cX13_readName 88 = .ok (.getfield 225, 3) := by decide +kernel
theorem dX13_readName_91 : decode cX13_readName 91 = .ok (.aload_n 0, 1) := by decide +kernel
theorem dX13_readName_92 : decode cX13_readName 92 = .ok (.getfield 228, 3) := by decide +kernel
theorem dX13_readName_95 : decode cX13_readName 95 = .ok (.invokevirtual 271, 3) := by decide +kernel
theorem dX13_readName_98 : decode cX13_readName 98 = .ok (.ifCond .eq 8, 3) := by decide +kernel
theorem dX13_readName_101 : decode cX13_readName 101 = .ok (.aload_n 0, 1) := by decide +kernel
theorem dX13_readName_102 : decode cX13_readName 102 = .ok (.iload_n 1, 1) := by decide +kernel
theorem dX13_readName_103 : decode cX13_readName 103 = .ok (.invokevirtual 216, 3) := by decide +kernel
theorem dX13_readName_106 : decode cX13_readName 106 = .ok (.iinc 2 1, 3) := by decide +kernel
theorem dX13_readName_109 : decode cX13_readName 109 = .ok (.goto (-64), 3) := by decide +kernel
theorem dX13_readName_112 : decode cX13_readName 112 = .ok (.aload_n 0, 1) := by decide +kernel
theorem dX13_readName_113 : decode cX13_readName 113 = .ok (.aload_n 0, 1) := by decide +kernel
theorem dX13_readName_114 : decode cX13_readName 114 = .ok (.getfield 225, 3) := by decide +kernel
theorem dX13_readName_117 : decode cX13_readName 117 = .ok (.putfield 245, 3) := by decide +kernel
theorem dX13_readName_120 : decode cX13_readName 120 = .ok (.aload_n 0, 1) := by decide +kernel
theorem dX13_readName_121 : decode cX13_readName 121 = .ok (.aload_n 0, 1) := by decide +kernel
theorem dX13_readName_122 : decode cX13_readName 122 = .ok (.getfield 228, 3) := by decide +kernel
theorem dX13_readName_125 : decode cX13_readName 125 = .ok (.putfield 248, 3) := by decide +kernel
theorem dX13_readName_128 : decode cX13_readName 128 = .ok (.aload_n 0, 1) := by decide +kernel
theorem dX13_readName_129 : decode cX13_readName 129 = .ok (.invokevirtual 275, 3) := by decide +kernel
theorem dX13_readName_132 : decode cX13_readName 132 = .ok (.aload_n 0, 1) := by decide +kernel
theorem dX13_readName_133 : decode cX13_readName 133 = .ok (.bipush 58, 2) := by decide +kernel
theorem dX13_readName_135 : decode cX13_readName 135 = .ok (.invokevirtual 222, 3) := by decide +kernel
theorem dX13_readName_138 : decode cX13_readName 138 = .ok (.return_, 1) := by decide +kernel
theorem dX13_shut_0 : decode cX13_shut 0 = .ok (.aload_n 0, 1) := by decide +kernel
theorem dX13_shut_1 : decode cX13_shut 1 = .ok (.invokevirtual 241, 3) := by decide +kernel
theorem dX13_shut_4 : decode cX13_shut 4 = .ok (.iconst (-1), 1) := by decide +kernel
theorem dX13_shut_5 : decode cX13_shut 5 = .ok (.if_icmp .eq 16, 3) := by decide +kernel
theorem dX13_shut_8 : decode cX13_shut 8 = .ok (.aload_n 0, 1) := by decide +kernel
theorem dX13_shut_9 : decode cX13_shut 9 = .ok (.getfield 23, 3) := by decide +kernel
theorem dX13_shut_12 : decode cX13_shut 12 = .ok (.aload_n 0, 1) := by decide +kernel
theorem dX13_shut_13 : decode cX13_shut 13 = .ok (.invokevirtual 241, 3) := by decide +kernel
theorem dX13_shut_16 : decode cX13_shut 16 = .ok (.iaload, 1) := by decide +kernel
theorem dX13_shut_17 : decode cX13_shut 17 = .ok (.iload_n 1, 1) := by decide +kernel
theorem dX13_shut_18 : decode cX13_shut 18 = .ok (.if_icmp .eq 12, 3) := by decide +kernel
theorem dX13_shut_21 : decode cX13_shut 21 = .ok (.aload_n 0, 1) := by decide +kernel
theorem dX13_shut_22 : decode cX13_shut 22 = .ok (.aload_n 0, 1) := by decide +kernel
theorem dX13_shut_23 : decode cX13_shut 23 = .ok (.getfield 202, 3) := by decide +kernel
theorem dX13_shut_26 : decode cX13_shut 26 = .ok (.invokevirtual 216, 3) := by decide +kernel
theorem dX13_shut_29 : decode cX13_shut 29 = .ok (.return_, 1) := by decide +kernel
theorem dX13_shut_30 : decode cX13_shut 30 = .ok (.aload_n 0, 1) := by decide +kernel
theorem dX13_shut_31 : decode cX13_shut 31 = .ok (.dup, 1) := by decide +kernel
theorem dX13_shut_32 : decode cX13_shut 32 = .ok (.getfield 202, 3) := by decide +kernel
theorem dX13_shut_35 : decode cX13_shut 35 = .ok (.iconst 1, 1) := by decide +kernel
theorem dX13_shut_36 : decode cX13_shut 36 = .ok (.iadd, 1) := by decide +kernel
theorem dX13_shut_37 : decode cX13_shut 37 = .ok (.putfield 202, 3) := by decide +kernel
theorem dX13_shut_40 : decode cX13_shut 40 = .ok (.aload_n 0, 1) := by decide +kernel
theorem dX13_shut_41 : decode cX13_shut 41 = .ok (.dup, 1) := by decide +kernel
theorem dX13_shut_42 : decode cX13_shut 42 = .ok (.getfield 235, 3) := by decide +kernel
theorem dX13_shut_45 : decode cX13_shut 45 = .ok (.iconst 1, 1) := by decide +kernel
theorem dX13_shut_46 : decode cX13_shut 46 = .ok (.isub, 1) := by decide +kernel
theorem dX13_shut_47 : decode cX13_shut 47 = .ok (.putfield 235, 3) := by decide +kernel
theorem dX13_shut_50 : decode cX13_shut 50 = .ok (.aload_n 0, 1) := by decide +kernel
theorem dX13_shut_51 : decode cX13_shut 51 = .ok (.aload_n 0, 1) := by decide +kernel
theorem dX13_shut_52 : decode cX13_shut 52 = .ok (.getfield 48, 3) := by decide +kernel
theorem dX13_shut_55 : decode cX13_shut 55 = .ok (.aload_n 0, 1) := by decide +kernel
theorem dX13_shut_56 : decode cX13_shut 56 = .ok (.getfield 235, 3) := by decide +kernel
theorem dX13_shut_59 : decode cX13_shut 59 = .ok (.iaload, 1) := by decide +kernel
theorem dX13_shut_60 : decode cX13_shut 60 = .ok (.invokevirtual 268, 3) := by decide +kernel
theorem dX13_shut_63 : decode cX13_shut 63 = .ok (.return_, 1) := by decide +kernel
theorem dX13_readStep_0 : decode cX13_readStep 0 = .ok (.aload_n 0, 1) := by decide +kernel
theorem dX13_readStep_1 : decode cX13_readStep 1 = .ok (.aload_n 0, 1) := by decide +kernel
theorem dX13_readStep_2 : decode cX13_readStep 2 = .ok (.getfield 202, 3) := by decide +kernel
theorem dX13_readStep_5 : decode cX13_readStep 5 = .ok (.invokevirtual 212, 3) := by decide +kernel
theorem dX13_readStep_8 : decode cX13_readStep 8 = .ok (.istore_n 2, 1) := by decide +kernel
theorem dX13_readStep_9 : decode cX13_readStep 9 = .ok (.iload_n 1, 1) := by decide +kernel
theorem dX13_readStep_10 : decode cX13_readStep 10 = .ok (.iconst 1, 1) := by decide +kernel
theorem dX13_readStep_11 : decode cX13_readStep 11 = .ok (.if_icmp .ne 9, 3) := by decide +kernel
theorem dX13_readStep_14 : decode cX13_readStep 14 = .ok (.iload_n 2, 1) := by decide +kernel
theorem dX13_readStep_15 : decode cX13_readStep 15 = .ok (.bipush 93, 2) := by decide +kernel
theorem dX13_readStep_17 : decode cX13_readStep 17 = .ok (.if_icmp .eq 31, 3) := by decide +kernel
theorem dX13_readStep_20 : decode cX13_readStep 20 = .ok (.iload_n 1, 1) := by decide +kernel
theorem dX13_readStep_21 : decode cX13_readStep 21 = .ok (.iconst 2, 1) := by decide +kernel
theorem dX13_readStep_22 : decode cX13_readStep 22 = .ok (.if_icmp .ne 9, 3) := by decide +kernel
theorem dX13_readStep_25 : decode cX13_readStep 25 = .ok (.iload_n 2, 1) := by decide +kernel
theorem dX13_readStep_26 : decode cX13_readStep 26 = .ok (.bipush 125, 2) := by decide +kernel
theorem dX13_readStep_28 : decode cX13_readStep 28 = .ok (.if_icmp .eq 20, 3) := by decide +kernel
theorem dX13_readStep_31 : decode cX13_readStep 31 = .ok (.iload_n 1, 1) := by decide +kernel
theorem dX13_readStep_32 : decode cX13_readStep 32 = .ok (.iconst 4, 1) := by decide +kernel
theorem dX13_readStep_33 : decode cX13_readStep 33 = .ok (.if_icmp .ne 33, 3) := by decide +kernel
theorem dX13_readStep_36 : decode cX13_readStep 36 = .ok (.iload_n 2, 1) := by decide +kernel
theorem dX13_readStep_37 : decode cX13_readStep 37 = .ok (.bipush 93, 2) := by decide +kernel
theorem dX13_readStep_39 : decode cX13_readStep 39 = .ok (.if_icmp .eq 9, 3) := by decide +kernel
theorem dX13_readStep_42 : decode cX13_readStep 42 = .ok (.iload_n 2, 1) := by decide +kernel
theorem dX13_readStep_43 : decode cX13_readStep 43 = .ok (.bipush 125, 2) := by decide +kernel
theorem dX13_readStep_45 : decode cX13_readStep 45 = .ok (.if_icmp .ne 21, 3) := by decide +kernel
theorem dX13_readStep_48 : decode cX13_readStep 48 = .ok (.aload_n 0, 1) := by decide +kernel
theorem dX13_readStep_49 : decode cX13_readStep 49 = .ok (.iload_n 2, 1) := by decide +kernel
theorem dX13_readStep_50 : decode cX13_readStep 50 = .ok (.bipush 93, 2) := by decide +kernel
theorem dX13_readStep_52 : decode cX13_readStep 52 = .ok (.if_icmp .ne 7, 3) := by decide +kernel
theorem dX13_readStep_55 : decode cX13_readStep 55 = .ok (.iconst 5, 1) := by decide +kernel
theorem dX13_readStep_56 : decode cX13_readStep 56 = .ok (.goto 5, 3) := by decide +kernel
theorem dX13_readStep_59 : decode cX13_readStep 59 = .ok (.bipush 6, 2) := by decide +kernel
theorem dX13_readStep_61 : decode cX13_readStep 61 = .ok (.invokevirtual 278, 3) := by decide +kernel
theorem dX13_readStep_64 : decode cX13_readStep 64 = .ok (.iconst 4, 1) := by decide +kernel
theorem dX13_readStep_65 : decode cX13_readStep 65 = .ok (.ireturn, 1) := by decide +kernel
theorem dX13_readStep_66 : decode cX13_readStep 66 = .ok (.iload_n 1, 1) := by decide +kernel
theorem dX13_readStep_67 : decode cX13_readStep 67 = .ok (.iconst 4, 1) := by decide +kernel
theorem dX13_readStep_68 : decode cX13_readStep 68 = .ok (.if_icmp .ne 55, 3) := by decide +kernel
theorem dX13_readStep_71 : decode cX13_readStep 71 = .ok (.aload_n 0, 1) := by decide +kernel
theorem dX13_readStep_72 : decode cX13_readStep 72 = .ok (.invokevirtual 241, 3) := by decide +kernel
theorem dX13_readStep_75 : decode cX13_readStep 75 = .ok (.istore_n 3, 1) := by decide +kernel
theorem dX13_readStep_76 : decode cX13_readStep 76 = .ok (.iload_n 2, 1) := by decide +kernel
theorem dX13_readStep_77 : decode cX13_readStep 77 = .ok (.bipush 44, 2) := by decide +kernel
theorem dX13_readStep_79 : decode cX13_readStep 79 = .ok (.if_icmp .ne 8, 3) := by decide +kernel
theorem dX13_readStep_82 : decode cX13_readStep 82 = .ok (.iload_n 3, 1) := by decide +kernel
theorem dX13_readStep_83 : decode cX13_readStep 83 = .ok (.iconst (-1), 1) := by decide +kernel
theorem dX13_readStep_84 : decode cX13_readStep 84 = .ok (.if_icmp .ne 13, 3) := by decide +kernel
theorem dX13_readStep_87 : decode cX13_readStep 87 = .ok (.aload_n 0, 1) := by decide +kernel
theorem dX13_readStep_88 : decode cX13_readStep 88 = .ok (.aload_n 0, 1) := by decide +kernel
theorem dX13_readStep_89 : decode cX13_readStep 89 = .ok (.getfield 202, 3) := by decide +kernel
theorem dX13_readStep_92 : decode cX13_readStep 92 = .ok (.invokevirtual 216, 3) := by decide +kernel
theorem dX13_readStep_95 : decode cX13_readStep 95 = .ok (.iconst 4, 1) := by decide +kernel
theorem dX13_readStep_96 : decode cX13_readStep 96 = .ok (.ireturn, 1) := by decide +kernel
theorem dX13_readStep_97 : decode cX13_readStep 97 = .ok (.aload_n 0, 1) := by decide +kernel
theorem dX13_readStep_98 : decode cX13_readStep 98 = .ok (.dup, 1) := by decide +kernel
theorem dX13_readStep_99 : decode cX13_readStep 99 = .ok (.getfield 202, 3) := by decide +kernel
theorem dX13_readStep_102 : decode cX13_readStep 102 = .ok (.iconst 1, 1) := by decide +kernel
theorem dX13_readStep_103 : decode cX13_readStep 103 = .ok (.iadd, 1) := by decide +kernel
theorem dX13_readStep_104 : decode cX13_readStep 104 = .ok (.putfield 202, 3) := by decide +kernel
theorem dX13_readStep_107 : decode cX13_readStep 107 = .ok (.aload_n 0, 1) := by decide +kernel
theorem dX13_readStep_108 : decode cX13_readStep 108 = .ok (.getfield 23, 3) := by decide +kernel
theorem dX13_readStep_111 : decode cX13_readStep 111 = .ok (.iload_n 3, 1) := by decide +kernel
theorem dX13_readStep_112 : decode cX13_readStep 112 = .ok (.iaload, 1) := by decide +kernel
theorem dX13_readStep_113 : decode cX13_readStep 113 = .ok (.iconst 5, 1) := by decide +kernel
theorem dX13_readStep_114 : decode cX13_readStep 114 = .ok (.if_icmp .ne 7, 3) := by decide +kernel
theorem dX13_readStep_117 : decode cX13_readStep 117 = .ok (.iconst 0, 1) := by decide +kernel
theorem dX13_readStep_118 : decode cX13_readStep 118 = .ok (.goto 4, 3) := by decide +kernel
theorem dX13_readStep_121 : decode cX13_readStep 121 = .ok (.iconst 3, 1) := by decide +kernel
theorem dX13_readStep_122 : decode cX13_readStep 122 = .ok (.ireturn, 1) := by decide +kernel
theorem dX13_readStep_123 : decode cX13_readStep 123 = .ok (.iload_n 1, 1) := by decide +kernel
theorem dX13_readStep_124 : decode cX13_readStep 124 = .ok (.iconst 1, 1) := by decide +kernel
theorem dX13_readStep_125 : decode cX13_readStep 125 = .ok (.if_icmp .le 9, 3) := by decide +kernel
theorem dX13_readStep_128 : decode cX13_readStep 128 = .ok (.aload_n 0, 1) := by decide +kernel
theorem dX13_readStep_129 : decode cX13_readStep 129 = .ok (.invokevirtual 281, 3) := by decide +kernel
theorem dX13_readStep_132 : decode cX13_readStep 132 = .ok (.iconst 0, 1) := by decide +kernel
theorem dX13_readStep_133 : decode cX13_readStep 133 = .ok (.ireturn, 1) := by decide +kernel
theorem dX13_readStep_134 : decode cX13_readStep 134 = .ok (.aload_n 0, 1) := by decide +kernel
theorem dX13_readStep_135 : decode cX13_readStep 135 = .ok (.getfield 238, 3) := by decide +kernel
theorem dX13_readStep_138 : decode cX13_readStep 138 = .ok (.istore_n 3, 1) := by decide +kernel
theorem dX13_readStep_139 : decode cX13_readStep 139 = .ok (.aload_n 0, 1) := by decide +kernel
theorem dX13_readStep_140 : decode cX13_readStep 140 = .ok (.invokevirtual 284, 3) := by decide +kernel
theorem dX13_readStep_143 : decode cX13_readStep 143 = .ok (.aload_n 0, 1) := by decide +kernel
theorem dX13_readStep_144 : decode cX13_readStep 144 = .ok (.invokevirtual 208, 3) := by decide +kernel
theorem dX13_readStep_147 : decode cX13_readStep 147 = .ok (.ifCond .eq 13, 3) := by decide +kernel
theorem dX13_readStep_150 : decode cX13_readStep 150 = .ok (.aload_n 0, 1) := by decide +kernel
theorem dX13_readStep_151 : decode cX13_readStep 151 = .ok (.getfield 23, 3) := by decide +kernel
theorem dX13_readStep_154 : decode cX13_readStep 154 = .ok (.iload_n 3, 1) := by decide +kernel
theorem dX13_readStep_155 : decode cX13_readStep 155 = .ok (.iaload, 1) := by decide +kernel
theorem dX13_readStep_156 : decode cX13_readStep 156 = .ok (.iconst 5, 1) := by decide +kernel
theorem dX13_readStep_157 : decode cX13_readStep 157 = .ok (.if_icmp .ge 7, 3) := by decide +kernel
theorem dX13_readStep_160 : decode cX13_readStep 160 = .ok (.iconst 4, 1) := by decide +kernel
theorem dX13_readStep_161 : decode cX13_readStep 161 = .ok (.goto 18, 3) := by decide +kernel
theorem dX13_readStep_164 : decode cX13_readStep 164 = .ok (.aload_n 0, 1) := by decide +kernel
theorem dX13_readStep_165 : decode cX13_readStep 165 = .ok (.getfield 23, 3) := by decide +kernel
theorem dX13_readStep_168 : decode cX13_readStep 168 = .ok (.iload_n 3, 1) := by decide +kernel
theorem dX13_readStep_169 : decode cX13_readStep 169 = .ok (.iaload, 1) := by decide +kernel
theorem dX13_readStep_170 : decode cX13_readStep 170 = .ok (.iconst 5, 1) := by decide +kernel
theorem dX13_readStep_171 : decode cX13_readStep 171 = .ok (.if_icmp .ne 7, 3) := by decide +kernel
theorem dX13_readStep_174 : decode cX13_readStep 174 = .ok (.iconst 1, 1) := by decide +kernel
theorem dX13_readStep_175 : decode cX13_readStep 175 = .ok (.goto 4, 3) := by decide +kernel
theorem dX13_readStep_178 : decode cX13_readStep 178 = .ok (.iconst 2, 1) := by decide +kernel
theorem dX13_readStep_179 : decode cX13_readStep 179 = .ok (.ireturn, 1) := by decide +kernel
theorem dX13_readDocument_0 : decode cX13_readDocument 0 = .ok (.aload_n 0, 1) := by decide +kernel
theorem dX13_readDocument_1 : decode cX13_readDocument 1 = .ok (.iconst 0, 1) := by decide +kernel
theorem dX13_readDocument_2 : decode cX13_readDocument 2 = .ok (.putfield 238, 3) := by decide +kernel
theorem dX13_readDocument_5 : decode cX13_readDocument 5 = .ok (.aload_n 0, 1) := by decide +kernel
theorem dX13_readDocument_6 : decode cX13_readDocument 6 = .ok (.iconst 0, 1) := by decide +kernel
theorem dX13_readDocument_7 : decode cX13_readDocument 7 = .ok (.putfield 235, 3) := by decide +kernel
theorem dX13_readDocument_10 : decode cX13_readDocument 10 = .ok (.aload_n 0, 1) := by decide +kernel
theorem dX13_readDocument_11 : decode cX13_readDocument 11 = .ok (.iconst (-1), 1) := by decide +kernel
theorem dX13_readDocument_12 : decode cX13_readDocument 12 = .ok (.putfield 245, 3) := by decide +kernel
theorem dX13_readDocument_15 : decode cX13_readDocument 15 = .ok (.aload_n 0, 1) := by decide +kernel
theorem dX13_readDocument_16 : decode cX13_readDocument 16 = .ok (.iconst 0, 1) := by decide +kernel
theorem dX13_readDocument_17 : decode cX13_readDocument 17 = .ok (.putfield 248, 3) := by decide +kernel
theorem dX13_readDocument_20 : decode cX13_readDocument 20 = .ok (.iconst 0, 1) := by decide +kernel
theorem dX13_readDocument_21 : decode cX13_readDocument 21 = .ok (.istore_n 1, 1) := by decide +kernel
theorem dX13_readDocument_22 : decode cX13_readDocument 22 = .ok (.iconst 1, 1) := by decide +kernel
theorem dX13_readDocument_23 : decode cX13_readDocument 23 = .ok (.istore_n 2, 1) := by decide +kernel
theorem dX13_readDocument_24 : decode cX13_readDocument 24 = .ok (.iload_n 2, 1) := by decide +kernel
theorem dX13_readDocument_25 : decode cX13_readDocument 25 = .ok (.ifCond .eq 60, 3) := by decide +kernel
theorem dX13_readDocument_28 : decode cX13_readDocument 28 = .ok (.aload_n 0, 1) := by decide +kernel
theorem dX13_readDocument_29 : decode cX13_readDocument 29 = .ok (.invokevirtual 208, 3) := by decide +kernel
theorem dX13_readDocument_32 : decode cX13_readDocument 32 = .ok (.ifCond .eq 53, 3) := by decide +kernel
theorem dX13_readDocument_35 : decode cX13_readDocument 35 = .ok (.aload_n 0, 1) := by decide +kernel
theorem dX13_readDocument_36 : decode cX13_readDocument 36 = .ok (.invokevirtual 275, 3) := by decide +kernel
theorem dX13_readDocument_39 : decode cX13_readDocument 39 = .ok (.aload_n 0, 1) := by decide +kernel
theorem dX13_readDocument_40 : decode cX13_readDocument 40 = .ok (.aload_n 0, 1) := by decide +kernel
theorem dX13_readDocument_41 : decode cX13_readDocument 41 = .ok (.getfield 202, 3) := by decide +kernel
theorem dX13_readDocument_44 : decode cX13_readDocument 44 = .ok (.invokevirtual 212, 3) := by decide +kernel
theorem dX13_readDocument_47 : decode cX13_readDocument 47 = .ok (.iconst (-1), 1) := by decide +kernel
theorem dX13_readDocument_48 : decode cX13_readDocument 48 = .ok (.if_icmp .ne 28, 3) := by decide +kernel
theorem dX13_readDocument_51 : decode cX13_readDocument 51 = .ok (.iconst 0, 1) := by decide +kernel
theorem dX13_readDocument_52 : decode cX13_readDocument 52 = .ok (.istore_n 2, 1) := by decide +kernel
theorem dX13_readDocument_53 : decode cX13_readDocument 53 = .ok (.iload_n 1, 1) := by decide +kernel
theorem dX13_readDocument_54 : decode cX13_readDocument 54 = .ok (.iconst 4, 1) := by decide +kernel
theorem dX13_readDocument_55 : decode cX13_readDocument 55 = .ok (.if_icmp .ne 10, 3) := by decide +kernel
theorem dX13_readDocument_58 : decode cX13_readDocument 58 = .ok (.aload_n 0, 1) := by decide +kernel
theorem dX13_readDocument_59 : decode cX13_readDocument 59 = .ok (.getfield 235, 3) := by decide +kernel
theorem dX13_readDocument_62 : decode cX13_readDocument 62 = .ok (.ifCond .le (-38), 3) := by decide +kernel
theorem dX13_readDocument_65 : decode cX13_readDocument 65 = .ok (.aload_n 0, 1) := by decide +kernel
theorem dX13_readDocument_66 : decode cX13_readDocument 66 = .ok (.aload_n 0, 1) := by decide +kernel
theorem dX13_readDocument_67 : decode cX13_readDocument 67 = .ok (.getfield 202, 3) := by decide +kernel
theorem dX13_readDocument_70 : decode cX13_readDocument 70 = .ok (.invokevirtual 216, 3) := by decide +kernel
theorem dX13_readDocument_73 : decode cX13_readDocument 73 = .ok (.goto (-49), 3) := by decide +kernel
theorem dX13_readDocument_76 : decode cX13_readDocument 76 = .ok (.aload_n 0, 1) := by decide +kernel
theorem dX13_readDocument_77 : decode cX13_readDocument 77 = .ok (.iload_n 1, 1) := by decide +kernel
theorem dX13_readDocument_78 : decode cX13_readDocument 78 = .ok (.invokevirtual 287, 3) := by decide +kernel
theorem dX13_readDocument_81 : decode cX13_readDocument 81 = .ok (.istore_n 1, 1) := by decide +kernel
theorem dX13_readDocument_82 : decode cX13_readDocument 82 = .ok (.goto (-58), 3) := by decide +kernel
theorem dX13_readDocument_85 : decode cX13_readDocument 85 = .ok (.return_, 1) := by decide +kernel
theorem dX13_document_0 : decode cX13_document 0 = .ok (.aload_n 0, 1) := by decide +kernel
theorem dX13_document_1 : decode cX13_document 1 = .ok (.aload_n 0, 1) := by decide +kernel
theorem dX13_document_2 : decode cX13_document 2 = .ok (.getfield 7, 3) := by decide +kernel
theorem dX13_document_5 : decode cX13_document 5 = .ok (.aload_n 0, 1) := by decide +kernel
theorem dX13_document_6 : decode cX13_document 6 = .ok (.getfield 196, 3) := by decide +kernel
theorem dX13_document_9 : decode cX13_document 9 = .ok (.invokevirtual 290, 3) := by decide +kernel
theorem dX13_document_12 : decode cX13_document 12 = .ok (.aload_n 0, 1) := by decide +kernel
theorem dX13_document_13 : decode cX13_document 13 = .ok (.getfield 196, 3) := by decide +kernel
theorem dX13_document_16 : decode cX13_document 16 = .ok (.istore_n 1, 1) := by decide +kernel
theorem dX13_document_17 : decode cX13_document 17 = .ok (.aload_n 0, 1) := by decide +kernel
theorem dX13_document_18 : decode cX13_document 18 = .ok (.iconst 0, 1) := by decide +kernel
theorem dX13_document_19 : decode cX13_document 19 = .ok (.putfield 196, 3) := by decide +kernel
theorem dX13_document_22 : decode cX13_document 22 = .ok (.aload_n 0, 1) := by decide +kernel
theorem dX13_document_23 : decode cX13_document 23 = .ok (.invokevirtual 294, 3) := by decide +kernel
theorem dX13_document_26 : decode cX13_document 26 = .ok (.aload_n 0, 1) := by decide +kernel
theorem dX13_document_27 : decode cX13_document 27 = .ok (.aload_n 0, 1) := by decide +kernel
theorem dX13_document_28 : decode cX13_document 28 = .ok (.getfield 205, 3) := by decide +kernel
theorem dX13_document_31 : decode cX13_document 31 = .ok (.putfield 13, 3) := by decide +kernel
theorem dX13_document_34 : decode cX13_document 34 = .ok (.aload_n 0, 1) := by decide +kernel
theorem dX13_document_35 : decode cX13_document 35 = .ok (.aload_n 0, 1) := by decide +kernel
theorem dX13_document_36 : decode cX13_document 36 = .ok (.invokevirtual 208, 3) := by decide +kernel
theorem dX13_document_39 : decode cX13_document 39 = .ok (.ifCond .eq 7, 3) := by decide +kernel
theorem dX13_document_42 : decode cX13_document 42 = .ok (.iconst 0, 1) := by decide +kernel
theorem dX13_document_43 : decode cX13_document 43 = .ok (.goto 4, 3) := by decide +kernel
theorem dX13_document_46 : decode cX13_document 46 = .ok (.iconst 1, 1) := by decide +kernel
theorem dX13_document_47 : decode cX13_document 47 = .ok (.putfield 193, 3) := by decide +kernel
theorem dX13_document_50 : decode cX13_document 50 = .ok (.aload_n 0, 1) := by decide +kernel
theorem dX13_document_51 : decode cX13_document 51 = .ok (.invokevirtual 208, 3) := by decide +kernel
theorem dX13_document_54 : decode cX13_document 54 = .ok (.ifCond .eq 48, 3) := by decide +kernel
theorem dX13_document_57 : decode cX13_document 57 = .ok (.iconst 0, 1) := by decide +kernel
theorem dX13_document_58 : decode cX13_document 58 = .ok (.istore_n 2, 1) := by decide +kernel
theorem dX13_document_59 : decode cX13_document 59 = .ok (.iload_n 2, 1) := by decide +kernel
theorem dX13_document_60 : decode cX13_document 60 = .ok (.iload_n 1, 1) := by decide +kernel
theorem dX13_document_61 : decode cX13_document 61 = .ok (.if_icmp .ge 21, 3) := by decide +kernel
theorem dX13_document_64 : decode cX13_document 64 = .ok (.aload_n 0, 1) := by decide +kernel
theorem dX13_document_65 : decode cX13_document 65 = .ok (.getfield 20, 3) := by decide +kernel
theorem dX13_document_68 : decode cX13_document 68 = .ok (.iload_n 2, 1) := by decide +kernel
theorem dX13_document_69 : decode cX13_document 69 = .ok (.aload_n 0, 1) := by decide +kernel
theorem dX13_document_70 : decode cX13_document 70 = .ok (.getfield 17, 3) := by decide +kernel
theorem dX13_document_73 : decode cX13_document 73 = .ok (.iload_n 2, 1) := by decide +kernel
theorem dX13_document_74 : decode cX13_document 74 = .ok (.baload, 1) := by decide +kernel
theorem dX13_document_75 : decode cX13_document 75 = .ok (.bastore, 1) := by decide +kernel
theorem dX13_document_76 : decode cX13_document 76 = .ok (.iinc 2 1, 3) := by decide +kernel
theorem dX13_document_79 : decode cX13_document 79 = .ok (.goto (-20), 3) := by decide +kernel
theorem dX13_document_82 : decode cX13_document 82 = .ok (.aload_n 0, 1) := by decide +kernel
theorem dX13_document_83 : decode cX13_document 83 = .ok (.iload_n 1, 1) := by decide +kernel
theorem dX13_document_84 : decode cX13_document 84 = .ok (.putfield 297, 3) := by decide +kernel
theorem dX13_document_87 : decode cX13_document 87 = .ok (.aload_n 0, 1) := by decide +kernel
theorem dX13_document_88 : decode cX13_document 88 = .ok (.iconst 1, 1) := by decide +kernel
theorem dX13_document_89 : decode cX13_document 89 = .ok (.putfield 300, 3) := by decide +kernel
theorem dX13_document_92 : decode cX13_document 92 = .ok (.aload_n 0, 1) := by decide +kernel
theorem dX13_document_93 : decode cX13_document 93 = .ok (.iconst 0, 1) := by decide +kernel
theorem dX13_document_94 : decode cX13_document 94 = .ok (.putfield 304, 3) := by decide +kernel
theorem dX13_document_97 : decode cX13_document 97 = .ok (.aload_n 0, 1) := by decide +kernel
theorem dX13_document_98 : decode cX13_document 98 = .ok (.getfield 238, 3) := by decide +kernel
theorem dX13_document_101 : decode cX13_document 101 = .ok (.ireturn, 1) := by decide +kernel
theorem dX13_document_102 : decode cX13_document 102 = .ok (.aload_n 0, 1) := by decide +kernel
theorem dX13_document_103 : decode cX13_document 103 = .ok (.aload_n 0, 1) := by decide +kernel
theorem dX13_document_104 : decode cX13_document 104 = .ok (.getfield 20, 3) := by decide +kernel
theorem dX13_document_107 : decode cX13_document 107 = .ok (.aload_n 0, 1) := by decide +kernel
theorem dX13_document_108 : decode cX13_document 108 = .ok (.getfield 297, 3) := by decide +kernel
theorem dX13_document_111 : decode cX13_document 111 = .ok (.invokevirtual 290, 3) := by decide +kernel
theorem dX13_document_114 : decode cX13_document 114 = .ok (.aload_n 0, 1) := by decide +kernel
theorem dX13_document_115 : decode cX13_document 115 = .ok (.iconst 0, 1) := by decide +kernel
theorem dX13_document_116 : decode cX13_document 116 = .ok (.putfield 238, 3) := by decide +kernel
theorem dX13_document_119 : decode cX13_document 119 = .ok (.aload_n 0, 1) := by decide +kernel
theorem dX13_document_120 : decode cX13_document 120 = .ok (.getfield 300, 3) := by decide +kernel
theorem dX13_document_123 : decode cX13_document 123 = .ok (.ifCond .eq 7, 3) := by decide +kernel
theorem dX13_document_126 : decode cX13_document 126 = .ok (.aload_n 0, 1) := by decide +kernel
theorem dX13_document_127 : decode cX13_document 127 = .ok (.invokevirtual 294, 3) := by decide +kernel
theorem dX13_document_130 : decode cX13_document 130 = .ok (.iconst 0, 1) := by decide +kernel
theorem dX13_document_131 : decode cX13_document 131 = .ok (.ireturn, 1) := by decide +kernel
theorem dX13_push_0 : decode cX13_push 0 = .ok (.aload_n 0, 1) := by decide +kernel
theorem dX13_push_1 : decode cX13_push 1 = .ok (.getfield 121, 3) := by decide +kernel
theorem dX13_push_4 : decode cX13_push 4 = .ok (.aload_n 0, 1) := by decide +kernel
theorem dX13_push_5 : decode cX13_push 5 = .ok (.getfield 307, 3) := by decide +kernel
theorem dX13_push_8 : decode cX13_push 8 = .ok (.iload_n 1, 1) := by decide +kernel
theorem dX13_push_9 : decode cX13_push 9 = .ok (.iastore, 1) := by decide +kernel
theorem dX13_push_10 : decode cX13_push 10 = .ok (.aload_n 0, 1) := by decide +kernel
theorem dX13_push_11 : decode cX13_push 11 = .ok (.getfield 124, 3) := by decide +kernel
theorem dX13_push_14 : decode cX13_push 14 = .ok (.aload_n 0, 1) := by decide +kernel
theorem dX13_push_15 : decode cX13_push 15 = .ok (.getfield 307, 3) := by decide +kernel
theorem dX13_push_18 : decode cX13_push 18 = .ok (.iload_n 2, 1) := by decide +kernel
theorem dX13_push_19 : decode cX13_push 19 = .ok (.iastore, 1) := by decide +kernel
theorem dX13_push_20 : decode cX13_push 20 = .ok (.aload_n 0, 1) := by decide +kernel
theorem dX13_push_21 : decode cX13_push 21 = .ok (.getfield 127, 3) := by decide +kernel
theorem dX13_push_24 : decode cX13_push 24 = .ok (.aload_n 0, 1) := by decide +kernel
theorem dX13_push_25 : decode cX13_push 25 = .ok (.getfield 307, 3) := by decide +kernel
theorem dX13_push_28 : decode cX13_push 28 = .ok (.iload_n 3, 1) := by decide +kernel
theorem dX13_push_29 : decode cX13_push 29 = .ok (.iastore, 1) := by decide +kernel
theorem dX13_push_30 : decode cX13_push 30 = .ok (.aload_n 0, 1) := by decide +kernel
theorem dX13_push_31 : decode cX13_push 31 = .ok (.dup, 1) := by decide +kernel
theorem dX13_push_32 : decode cX13_push 32 = .ok (.getfield 307, 3) := by decide +kernel
theorem dX13_push_35 : decode cX13_push 35 = .ok (.iconst 1, 1) := by decide +kernel
theorem dX13_push_36 : decode cX13_push 36 = .ok (.iadd, 1) := by decide +kernel
theorem dX13_push_37 : decode cX13_push 37 = .ok (.putfield 307, 3) := by decide +kernel
theorem dX13_push_40 : decode cX13_push 40 = .ok (.return_, 1) := by decide +kernel
theorem dX13_newPath_0 : decode cX13_newPath 0 = .ok (.aload_n 0, 1) := by decide +kernel
theorem dX13_newPath_1 : decode cX13_newPath 1 = .ok (.getfield 54, 3) := by decide +kernel
theorem dX13_newPath_4 : decode cX13_newPath 4 = .ok (.aload_n 0, 1) := by decide +kernel
theorem dX13_newPath_5 : decode cX13_newPath 5 = .ok (.getfield 310, 3) := by decide +kernel
theorem dX13_newPath_8 : decode cX13_newPath 8 = .ok (.aload_n 0, 1) := by decide +kernel
theorem dX13_newPath_9 : decode cX13_newPath 9 = .ok (.getfield 202, 3) := by decide +kernel
theorem dX13_newPath_12 : decode cX13_newPath 12 = .ok (.iastore, 1) := by decide +kernel
theorem dX13_newPath_13 : decode cX13_newPath 13 = .ok (.aload_n 0, 1) := by decide +kernel
theorem dX13_newPath_14 : decode cX13_newPath 14 = .ok (.getfield 57, 3) := by decide +kernel
theorem dX13_newPath_17 : decode cX13_newPath 17 = .ok (.aload_n 0, 1) := by decide +kernel
theorem dX13_newPath_18 : decode cX13_newPath 18 = .ok (.getfield 310, 3) := by decide +kernel
theorem dX13_newPath_21 : decode cX13_newPath 21 = .ok (.iconst (-1), 1) := by decide +kernel
theorem dX13_newPath_22 : decode cX13_newPath 22 = .ok (.iastore, 1) := by decide +kernel
theorem dX13_newPath_23 : decode cX13_newPath 23 = .ok (.aload_n 0, 1) := by decide +kernel
theorem dX13_newPath_24 : decode cX13_newPath 24 = .ok (.getfield 60, 3) := by decide +kernel
theorem dX13_newPath_27 : decode cX13_newPath 27 = .ok (.aload_n 0, 1) := by decide +kernel
theorem dX13_newPath_28 : decode cX13_newPath 28 = .ok (.getfield 310, 3) := by decide +kernel
theorem dX13_newPath_31 : decode cX13_newPath 31 = .ok (.iconst (-1), 1) := by decide +kernel
theorem dX13_newPath_32 : decode cX13_newPath 32 = .ok (.iastore, 1) := by decide +kernel
theorem dX13_newPath_33 : decode cX13_newPath 33 = .ok (.aload_n 0, 1) := by decide +kernel
theorem dX13_newPath_34 : decode cX13_newPath 34 = .ok (.getfield 63, 3) := by decide +kernel
theorem dX13_newPath_37 : decode cX13_newPath 37 = .ok (.aload_n 0, 1) := by decide +kernel
theorem dX13_newPath_38 : decode cX13_newPath 38 = .ok (.getfield 310, 3) := by decide +kernel
theorem dX13_newPath_41 : decode cX13_newPath 41 = .ok (.iload_n 1, 1) := by decide +kernel
theorem dX13_newPath_42 : decode cX13_newPath 42 = .ok (.bastore, 1) := by decide +kernel
theorem dX13_newPath_43 : decode cX13_newPath 43 = .ok (.aload_n 0, 1) := by decide +kernel
theorem dX13_newPath_44 : decode cX13_newPath 44 = .ok (.dup, 1) := by decide +kernel
theorem dX13_newPath_45 : decode cX13_newPath 45 = .ok (.getfield 202, 3) := by decide +kernel
theorem dX13_newPath_48 : decode cX13_newPath 48 = .ok (.iconst 1, 1) := by decide +kernel
theorem dX13_newPath_49 : decode cX13_newPath 49 = .ok (.iadd, 1) := by decide +kernel
theorem dX13_newPath_50 : decode cX13_newPath 50 = .ok (.putfield 202, 3) := by decide +kernel
theorem dX13_newPath_53 : decode cX13_newPath 53 = .ok (.aload_n 0, 1) := by decide +kernel
theorem dX13_newPath_54 : decode cX13_newPath 54 = .ok (.dup, 1) := by decide +kernel
theorem dX13_newPath_55 : decode cX13_newPath 55 = .ok (.getfield 310, 3) := by decide +kernel
theorem dX13_newPath_58 : decode cX13_newPath 58 = .ok (.iconst 1, 1) := by decide +kernel
theorem dX13_newPath_59 : decode cX13_newPath 59 = .ok (.iadd, 1) := by decide +kernel
theorem dX13_newPath_60 : decode cX13_newPath 60 = .ok (.putfield 310, 3) := by decide +kernel
theorem dX13_newPath_63 : decode cX13_newPath 63 = .ok (.aload_n 0, 1) := by decide +kernel
theorem dX13_newPath_64 : decode cX13_newPath 64 = .ok (.getfield 310, 3) := by decide +kernel
theorem dX13_newPath_67 : decode cX13_newPath 67 = .ok (.iconst 1, 1) := by decide +kernel
theorem dX13_newPath_68 : decode cX13_newPath 68 = .ok (.isub, 1) := by decide +kernel
theorem dX13_newPath_69 : decode cX13_newPath 69 = .ok (.ireturn, 1) := by decide +kernel
def mo_isSame_j57 (N : Nat) (x7 : Int32) (S : md_S) : Option (Int32 × md_S) :=
  if md_bo x7 then
  some (x7, S)
  else none
theorem ro_isSame_j57 {l : Launch} {G : mv_G} {B : mv_H} {m N d : Nat} (hG : mv_ok G) (hm : G.2.2.1 ≤ m) {x7 : Int32} {S : md_S} {q : (Int32 × md_S)} (hq : mo_isSame_j57 N x7 S = some q) : mv_rq l G mX13_isSame d 57 [none, none, none, none, none, none, none, some (.int x7), none] [] (md_H G B m S) (md_Q G B m q) := by
  unfold mo_isSame_j57 at hq
  refine q_iload dX13_isSame_57 rfl ?_
  obtain ⟨g59, hq⟩ := md_g hq
  obtain rfl := Option.some.inj hq
  exact q_iret (ty := .boolean) dX13_isSame_59 rfl (md_bnar g59) ⟨rfl, rfl⟩
def mo_isSame_l16 (N : Nat) : Nat → Nat → Int32 → Int32 → Nat → Int32 → Int32 → Int32 → md_S → Option (Int32 × md_S)
  | 0, _, _, _, _, _, _, _, _ => none
  | n + 1, x1, x2, x3, x4, x5, x7, x8, S =>
    if x3 ≤ x8 then
      mo_isSame_j57 N x7 S
    else
      if x7 = 0 then
        mo_isSame_j57 N x7 S
      else
        if md_k x1 = some (0, 160) then
        if md_in (x2 + x8) 160 then
        if md_k x4 = some (0, 160) then
        if md_in (x5 + x8) 160 then
        if (S.2 x1 (x2 + x8).toNatClampNeg) = (S.2 x4 (x5 + x8).toNatClampNeg) then
          mo_isSame_l16 N n x1 x2 x3 x4 x5 1 (x8 + 1) S
        else
          mo_isSame_l16 N n x1 x2 x3 x4 x5 0 (x8 + 1) S
        else none
        else none
        else none
        else none
theorem ro_isSame_l16 {l : Launch} {G : mv_G} {B : mv_H} {m N d : Nat} (hG : mv_ok G) (hm : G.2.2.1 ≤ m) : ∀ n : Nat, ∀ {x1 : Nat} {x2 : Int32} {x3 : Int32} {x4 : Nat} {x5 : Int32} {x7 : Int32} {x8 : Int32} {S : md_S} {q : (Int32 × md_S)}, mo_isSame_l16 N n x1 x2 x3 x4 x5 x7 x8 S = some q → mv_rq l G mX13_isSame d 16 [none, some (.ref (m + md_ad x1)), some (.int x2), some (.int x3), some (.ref (m + md_ad x4)), some (.int x5), none, some (.int x7), some (.int x8)] [] (md_H G B m S) (md_Q G B m q)
  | 0, _, _, _, _, _, _, _, _, _, hq => nomatch hq
  | n + 1, x1, x2, x3, x4, x5, x7, x8, S, q, hq => by
    rw [mo_isSame_l16] at hq
    refine q_iload dX13_isSame_16 rfl ?_
    refine q_iload_n dX13_isSame_18 rfl ?_
    refine q_icmp_ge (tgt := 57) dX13_isSame_19 (by decide) (fun c19 => ?_) (fun c19 => ?_)
    ·
      have hq := md_pos c19 hq
      refine mv_weak (A := [none, none, none, none, none, none, none, some (.int x7), none]) (by repeat' constructor) ?_
      exact ro_isSame_j57 hG hm hq
    ·
      have hq := md_neg c19 hq
      refine q_iload dX13_isSame_22 rfl ?_
      refine q_if_eq (tgt := 57) dX13_isSame_24 (by decide) (fun c24 => ?_) (fun c24 => ?_)
      ·
        have hq := md_pos c24 hq
        refine mv_weak (A := [none, none, none, none, none, none, none, some (.int x7), none]) (by repeat' constructor) ?_
        exact ro_isSame_j57 hG hm hq
      ·
        have hq := md_neg c24 hq
        refine q_aload_n dX13_isSame_27 rfl ?_
        refine q_iload_n dX13_isSame_28 rfl ?_
        refine q_iload dX13_isSame_29 rfl ?_
        refine q_iadd dX13_isSame_31 ?_
        obtain ⟨k32, hq⟩ := md_g hq
        obtain ⟨g32, hq⟩ := md_g hq
        refine r_bald hG x1 dX13_isSame_32 k32 g32 ?_
        refine q_aload dX13_isSame_33 rfl ?_
        refine q_iload dX13_isSame_35 rfl ?_
        refine q_iload dX13_isSame_37 rfl ?_
        refine q_iadd dX13_isSame_39 ?_
        obtain ⟨k40, hq⟩ := md_g hq
        obtain ⟨g40, hq⟩ := md_g hq
        refine r_bald hG x4 dX13_isSame_40 k40 g40 ?_
        refine q_icmp_ne (tgt := 48) dX13_isSame_41 (by decide) (fun c41 => ?_) (fun c41 => ?_)
        ·
          have hq := md_neg c41 hq
          refine q_iconst (v := 0) dX13_isSame_48 (by decide) ?_
          refine q_istore dX13_isSame_49 (Nat.le_of_ble_eq_true rfl) rfl ?_
          show mv_rq l G mX13_isSame d 51 [none, some (.ref (m + md_ad x1)), some (.int x2), some (.int x3), some (.ref (m + md_ad x4)), some (.int x5), none, some (.int 0), some (.int x8)] [] (md_H G B m S) _
          refine q_iinc dX13_isSame_51 rfl rfl ?_
          show mv_rq l G mX13_isSame d 54 [none, some (.ref (m + md_ad x1)), some (.int x2), some (.int x3), some (.ref (m + md_ad x4)), some (.int x5), none, some (.int 0), some (.int (x8 + 1))] [] (md_H G B m S) _
          refine q_goto (tgt := 16) dX13_isSame_54 (by decide) ?_
          refine mv_weak (A := [none, some (.ref (m + md_ad x1)), some (.int x2), some (.int x3), some (.ref (m + md_ad x4)), some (.int x5), none, some (.int 0), some (.int (x8 + 1))]) (by repeat' constructor) ?_
          exact ro_isSame_l16 hG hm n hq
        ·
          have hq := md_pos c41 hq
          refine q_iconst (v := 1) dX13_isSame_44 (by decide) ?_
          refine q_goto (tgt := 49) dX13_isSame_45 (by decide) ?_
          refine q_istore dX13_isSame_49 (Nat.le_of_ble_eq_true rfl) rfl ?_
          show mv_rq l G mX13_isSame d 51 [none, some (.ref (m + md_ad x1)), some (.int x2), some (.int x3), some (.ref (m + md_ad x4)), some (.int x5), none, some (.int 1), some (.int x8)] [] (md_H G B m S) _
          refine q_iinc dX13_isSame_51 rfl rfl ?_
          show mv_rq l G mX13_isSame d 54 [none, some (.ref (m + md_ad x1)), some (.int x2), some (.int x3), some (.ref (m + md_ad x4)), some (.int x5), none, some (.int 1), some (.int (x8 + 1))] [] (md_H G B m S) _
          refine q_goto (tgt := 16) dX13_isSame_54 (by decide) ?_
          refine mv_weak (A := [none, some (.ref (m + md_ad x1)), some (.int x2), some (.int x3), some (.ref (m + md_ad x4)), some (.int x5), none, some (.int 1), some (.int (x8 + 1))]) (by repeat' constructor) ?_
          exact ro_isSame_l16 hG hm n hq
def mo_isSame_j11 (N : Nat) (x1 : Nat) (x2 : Int32) (x3 : Int32) (x4 : Nat) (x5 : Int32) (y0 : Int32) (S : md_S) : Option (Int32 × md_S) :=
  mo_isSame_l16 N N x1 x2 x3 x4 x5 y0 0 S
theorem ro_isSame_j11 {l : Launch} {G : mv_G} {B : mv_H} {m N d : Nat} (hG : mv_ok G) (hm : G.2.2.1 ≤ m) {x1 : Nat} {x2 : Int32} {x3 : Int32} {x4 : Nat} {x5 : Int32} {y0 : Int32} {S : md_S} {q : (Int32 × md_S)} (hq : mo_isSame_j11 N x1 x2 x3 x4 x5 y0 S = some q) : mv_rq l G mX13_isSame d 11 [none, some (.ref (m + md_ad x1)), some (.int x2), some (.int x3), some (.ref (m + md_ad x4)), some (.int x5), none, none, none] [.int y0] (md_H G B m S) (md_Q G B m q) := by
  unfold mo_isSame_j11 at hq
  refine q_istore dX13_isSame_11 (Nat.le_of_ble_eq_true rfl) rfl ?_
  show mv_rq l G mX13_isSame d 13 [none, some (.ref (m + md_ad x1)), some (.int x2), some (.int x3), some (.ref (m + md_ad x4)), some (.int x5), none, some (.int y0), none] [] (md_H G B m S) _
  refine q_iconst (v := 0) dX13_isSame_13 (by decide) ?_
  refine q_istore dX13_isSame_14 (Nat.le_of_ble_eq_true rfl) rfl ?_
  show mv_rq l G mX13_isSame d 16 [none, some (.ref (m + md_ad x1)), some (.int x2), some (.int x3), some (.ref (m + md_ad x4)), some (.int x5), none, some (.int y0), some (.int 0)] [] (md_H G B m S) _
  refine mv_weak (A := [none, some (.ref (m + md_ad x1)), some (.int x2), some (.int x3), some (.ref (m + md_ad x4)), some (.int x5), none, some (.int y0), some (.int 0)]) (by repeat' constructor) ?_
  exact ro_isSame_l16 hG hm N hq
def mo_isSame (N : Nat) (x1 : Nat) (x2 : Int32) (x3 : Int32) (x4 : Nat) (x5 : Int32) (x6 : Int32) (S : md_S) : Option (Int32 × md_S) :=
  if x3 = x6 then
    mo_isSame_j11 N x1 x2 x3 x4 x5 1 S
  else
    mo_isSame_j11 N x1 x2 x3 x4 x5 0 S
theorem ro_isSame {l : Launch} {G : mv_G} {B : mv_H} {m N d : Nat} (hG : mv_ok G) (hm : G.2.2.1 ≤ m) {x1 : Nat} {x2 : Int32} {x3 : Int32} {x4 : Nat} {x5 : Int32} {x6 : Int32} {S : md_S} {q : (Int32 × md_S)} (hq : mo_isSame N x1 x2 x3 x4 x5 x6 S = some q) : mv_rq l G mX13_isSame d 0 (mv_in [.ref m, .ref (m + md_ad x1), .int x2, .int x3, .ref (m + md_ad x4), .int x5, .int x6] 9) [] (md_H G B m S) (md_Q G B m q) := by
  unfold mo_isSame at hq
  show mv_rq l G mX13_isSame d 0 [some (.ref m), some (.ref (m + md_ad x1)), some (.int x2), some (.int x3), some (.ref (m + md_ad x4)), some (.int x5), some (.int x6), none, none] [] (md_H G B m S) _
  refine q_iload_n dX13_isSame_0 rfl ?_
  refine q_iload dX13_isSame_1 rfl ?_
  refine q_icmp_ne (tgt := 10) dX13_isSame_3 (by decide) (fun c3 => ?_) (fun c3 => ?_)
  ·
    have hq := md_neg c3 hq
    refine q_iconst (v := 0) dX13_isSame_10 (by decide) ?_
    refine mv_weak (A := [none, some (.ref (m + md_ad x1)), some (.int x2), some (.int x3), some (.ref (m + md_ad x4)), some (.int x5), none, none, none]) (by repeat' constructor) ?_
    exact ro_isSame_j11 hG hm hq
  ·
    have hq := md_pos c3 hq
    refine q_iconst (v := 1) dX13_isSame_6 (by decide) ?_
    refine q_goto (tgt := 11) dX13_isSame_7 (by decide) ?_
    refine mv_weak (A := [none, some (.ref (m + md_ad x1)), some (.int x2), some (.int x3), some (.ref (m + md_ad x4)), some (.int x5), none, none, none]) (by repeat' constructor) ?_
    exact ro_isSame_j11 hG hm hq
def mo_readName_l45 (N : Nat) : Nat → Int32 → Int32 → md_S → Option md_S
  | 0, _, _, _ => none
  | n + 1, x1, x2, S =>
    if (S.1 10) ≤ x2 then
      md_l (md_p S 22 (S.1 86)) fun S117 =>
      md_l (md_p S117 23 (S117.1 87)) fun S125 =>
      md_c (mo_blanks N S125) fun S129 =>
      md_c (mo_need 58 S129) fun S135 =>
      some S135
    else
      if md_in x2 41 then
      md_b (mo_top S) fun v60 S60 =>
      if (S.2 13 x2.toNatClampNeg) = v60 then
        if md_in x2 41 then
        if md_in x2 41 then
        md_b (mo_isSame N 4 (S60.2 18 x2.toNatClampNeg) (S60.2 19 x2.toNatClampNeg) 4 (S60.1 86) (S60.1 87) S60) fun v95 S95 =>
        if v95 = 0 then
          mo_readName_l45 N n x1 (x2 + 1) S95
        else
          md_c (mo_fail x1 S95) fun S103 =>
          mo_readName_l45 N n x1 (x2 + 1) S103
        else none
        else none
      else
        mo_readName_l45 N n x1 (x2 + 1) S60
      else none
theorem ro_readName_l45 {l : Launch} {G : mv_G} {B : mv_H} {m N d : Nat} (hG : mv_ok G) (hm : G.2.2.1 ≤ m) : ∀ n : Nat, ∀ {x1 : Int32} {x2 : Int32} {S : md_S} {q : md_S}, mo_readName_l45 N n x1 x2 S = some q → mv_rq l G mX13_readName (d + 3) 45 [some (.ref m), some (.int x1), some (.int x2)] [] (md_H G B m S) (md_V G B m q)
  | 0, _, _, _, _, hq => nomatch hq
  | n + 1, x1, x2, S, q, hq => by
    rw [mo_readName_l45] at hq
    refine q_iload_n dX13_readName_45 rfl ?_
    refine q_aload_n dX13_readName_46 rfl ?_
    refine r_geti 10 dX13_readName_47 fl_RX13_238 (by decide) rfl ki_10 ?_
    refine q_icmp_ge (tgt := 112) dX13_readName_50 (by decide) (fun c50 => ?_) (fun c50 => ?_)
    ·
      have hq := md_pos c50 hq
      refine q_aload_n dX13_readName_112 rfl ?_
      refine q_aload_n dX13_readName_113 rfl ?_
      refine r_geti 86 dX13_readName_114 fl_RX13_225 (by decide) rfl ki_86 ?_
      refine r_puti 22 .int dX13_readName_117 fl_RX13_245 (by decide) rfl ki_22 rfl kp_22 rfl rfl hm (fun S117 e117 => ?_)
      have hq := md_l_e e117 hq
      clear e117
      show mv_rq l G mX13_readName (d + 3) 120 [some (.ref m), some (.int x1), some (.int x2)] [] (md_H G B m S117) _
      refine q_aload_n dX13_readName_120 rfl ?_
      refine q_aload_n dX13_readName_121 rfl ?_
      refine r_geti 87 dX13_readName_122 fl_RX13_228 (by decide) rfl ki_87 ?_
      refine r_puti 23 .int dX13_readName_125 fl_RX13_248 (by decide) rfl ki_23 rfl kp_23 rfl rfl hm (fun S125 e125 => ?_)
      have hq := md_l_e e125 hq
      clear e125
      show mv_rq l G mX13_readName (d + 3) 128 [some (.ref m), some (.int x1), some (.int x2)] [] (md_H G B m S125) _
      refine q_aload_n dX13_readName_128 rfl ?_
      obtain ⟨S129, e129, hq⟩ := md_c_e hq
      refine q_cV (Y := mX13_blanks) (As := []) (st := []) (b := m) (ci := 15) vc_X13_blanks dX13_readName_129 ml_RX13_275 rfl md_obj rfl (Nat.le_of_ble_eq_true rfl) rfl (Nat.le_of_ble_eq_true rfl) (ro_blanks (d := d + 1) hG hm e129) (fun v h1 hq1 => ?_) (fun E h1 hq1 => md_nV hq1)
      obtain ⟨hv, rfl⟩ := hq1
      cases hv
      show mv_rq l G mX13_readName (d + 3) 132 [some (.ref m), some (.int x1), some (.int x2)] [] (md_H G B m S129) _
      refine q_aload_n dX13_readName_132 rfl ?_
      refine q_bipush (v := 58) dX13_readName_133 (by decide) ?_
      obtain ⟨S135, e135, hq⟩ := md_c_e hq
      refine q_cV (Y := mX13_need) (As := [.int 58]) (st := []) (b := m) (ci := 15) vc_X13_need dX13_readName_135 ml_RX13_222 rfl md_obj rfl (Nat.le_of_ble_eq_true rfl) rfl (Nat.le_of_ble_eq_true rfl) (ro_need (d := d) hG hm e135) (fun v h1 hq1 => ?_) (fun E h1 hq1 => md_nV hq1)
      obtain ⟨hv, rfl⟩ := hq1
      cases hv
      show mv_rq l G mX13_readName (d + 3) 138 [some (.ref m), some (.int x1), some (.int x2)] [] (md_H G B m S135) _
      obtain rfl := Option.some.inj hq
      exact q_vret dX13_readName_138 rfl ⟨rfl, rfl⟩
    ·
      have hq := md_neg c50 hq
      refine q_aload_n dX13_readName_53 rfl ?_
      refine r_geta 13 dX13_readName_54 fl_RX13_27 (by decide) rfl kk_13 ?_
      refine q_iload_n dX13_readName_57 rfl ?_
      obtain ⟨g58, hq⟩ := md_g hq
      refine r_iald hG 13 dX13_readName_58 kk_13 g58 ?_
      refine q_aload_n dX13_readName_59 rfl ?_
      obtain ⟨v60, S60, e60, hq⟩ := md_b_e hq
      refine q_cV (Y := mX13_top) (As := []) (st := [.int (S.2 13 x2.toNatClampNeg)]) (b := m) (ci := 15) vc_X13_top dX13_readName_60 ml_RX13_241 rfl md_obj rfl (Nat.le_of_ble_eq_true rfl) rfl (Nat.le_of_ble_eq_true rfl) (ro_top (d := d + 2) hG hm e60) (fun v h1 hq1 => ?_) (fun E h1 hq1 => md_nQ hq1)
      obtain ⟨hv, rfl⟩ := hq1
      cases hv
      show mv_rq l G mX13_readName (d + 3) 63 [some (.ref m), some (.int x1), some (.int x2)] [.int v60, .int (S.2 13 x2.toNatClampNeg)] (md_H G B m S60) _
      refine q_icmp_ne (tgt := 106) dX13_readName_63 (by decide) (fun c63 => ?_) (fun c63 => ?_)
      ·
        have hq := md_neg c63 hq
        refine q_iinc dX13_readName_106 rfl rfl ?_
        show mv_rq l G mX13_readName (d + 3) 109 [some (.ref m), some (.int x1), some (.int (x2 + 1))] [] (md_H G B m S60) _
        refine q_goto (tgt := 45) dX13_readName_109 (by decide) ?_
        refine mv_weak (A := [some (.ref m), some (.int x1), some (.int (x2 + 1))]) (by repeat' constructor) ?_
        exact ro_readName_l45 hG hm n hq
      ·
        have hq := md_pos c63 hq
        refine q_aload_n dX13_readName_66 rfl ?_
        refine q_aload_n dX13_readName_67 rfl ?_
        refine r_geta 4 dX13_readName_68 fl_RX13_17 (by decide) rfl kk_4 ?_
        refine q_aload_n dX13_readName_71 rfl ?_
        refine r_geta 18 dX13_readName_72 fl_RX13_42 (by decide) rfl kk_18 ?_
        refine q_iload_n dX13_readName_75 rfl ?_
        obtain ⟨g76, hq⟩ := md_g hq
        refine r_iald hG 18 dX13_readName_76 kk_18 g76 ?_
        refine q_aload_n dX13_readName_77 rfl ?_
        refine r_geta 19 dX13_readName_78 fl_RX13_45 (by decide) rfl kk_19 ?_
        refine q_iload_n dX13_readName_81 rfl ?_
        obtain ⟨g82, hq⟩ := md_g hq
        refine r_iald hG 19 dX13_readName_82 kk_19 g82 ?_
        refine q_aload_n dX13_readName_83 rfl ?_
        refine r_geta 4 dX13_readName_84 fl_RX13_17 (by decide) rfl kk_4 ?_
        refine q_aload_n dX13_readName_87 rfl ?_
        refine r_geti 86 dX13_readName_88 fl_RX13_225 (by decide) rfl ki_86 ?_
        refine q_aload_n dX13_readName_91 rfl ?_
        refine r_geti 87 dX13_readName_92 fl_RX13_228 (by decide) rfl ki_87 ?_
        obtain ⟨v95, S95, e95, hq⟩ := md_b_e hq
        refine q_cV (Y := mX13_isSame) (As := [.ref (m + md_ad 4), .int (S60.2 18 x2.toNatClampNeg), .int (S60.2 19 x2.toNatClampNeg), .ref (m + md_ad 4), .int (S60.1 86), .int (S60.1 87)]) (st := []) (b := m) (ci := 15) vc_X13_isSame dX13_readName_95 ml_RX13_271 rfl md_obj rfl (Nat.le_of_ble_eq_true rfl) rfl (Nat.le_of_ble_eq_true rfl) (ro_isSame (d := d + 2) hG hm e95) (fun v h1 hq1 => ?_) (fun E h1 hq1 => md_nQ hq1)
        obtain ⟨hv, rfl⟩ := hq1
        cases hv
        show mv_rq l G mX13_readName (d + 3) 98 [some (.ref m), some (.int x1), some (.int x2)] [.int v95] (md_H G B m S95) _
        refine q_if_eq (tgt := 106) dX13_readName_98 (by decide) (fun c98 => ?_) (fun c98 => ?_)
        ·
          have hq := md_pos c98 hq
          refine q_iinc dX13_readName_106 rfl rfl ?_
          show mv_rq l G mX13_readName (d + 3) 109 [some (.ref m), some (.int x1), some (.int (x2 + 1))] [] (md_H G B m S95) _
          refine q_goto (tgt := 45) dX13_readName_109 (by decide) ?_
          refine mv_weak (A := [some (.ref m), some (.int x1), some (.int (x2 + 1))]) (by repeat' constructor) ?_
          exact ro_readName_l45 hG hm n hq
        ·
          have hq := md_neg c98 hq
          refine q_aload_n dX13_readName_101 rfl ?_
          refine q_iload_n dX13_readName_102 rfl ?_
          obtain ⟨S103, e103, hq⟩ := md_c_e hq
          refine q_cV (Y := mX13_fail) (As := [.int x1]) (st := []) (b := m) (ci := 15) vc_X13_fail dX13_readName_103 ml_RX13_216 rfl md_obj rfl (Nat.le_of_ble_eq_true rfl) rfl (Nat.le_of_ble_eq_true rfl) (ro_fail (d := d + 1) hG hm e103) (fun v h1 hq1 => ?_) (fun E h1 hq1 => md_nV hq1)
          obtain ⟨hv, rfl⟩ := hq1
          cases hv
          show mv_rq l G mX13_readName (d + 3) 106 [some (.ref m), some (.int x1), some (.int x2)] [] (md_H G B m S103) _
          refine q_iinc dX13_readName_106 rfl rfl ?_
          show mv_rq l G mX13_readName (d + 3) 109 [some (.ref m), some (.int x1), some (.int (x2 + 1))] [] (md_H G B m S103) _
          refine q_goto (tgt := 45) dX13_readName_109 (by decide) ?_
          refine mv_weak (A := [some (.ref m), some (.int x1), some (.int (x2 + 1))]) (by repeat' constructor) ?_
          exact ro_readName_l45 hG hm n hq
def mo_readName (N : Nat) (S : md_S) : Option md_S :=
  md_b (mo_at (S.1 6) S) fun v10 S10 =>
  if v10 = 34 then
    md_c (mo_readString N 34 92 S10) fun S32 =>
    md_b (mo_good S32) fun v36 S36 =>
    if v36 = 0 then
      some S36
    else
      mo_readName_l45 N N (S.1 6) 0 S36
  else
    md_c (mo_fail (S10.1 6) S10) fun S23 =>
    some S23
theorem ro_readName {l : Launch} {G : mv_G} {B : mv_H} {m N d : Nat} (hG : mv_ok G) (hm : G.2.2.1 ≤ m) {S : md_S} {q : md_S} (hq : mo_readName N S = some q) : mv_rq l G mX13_readName (d + 3) 0 (mv_in [.ref m] 3) [] (md_H G B m S) (md_V G B m q) := by
  unfold mo_readName at hq
  show mv_rq l G mX13_readName (d + 3) 0 [some (.ref m), none, none] [] (md_H G B m S) _
  refine q_aload_n dX13_readName_0 rfl ?_
  refine r_geti 6 dX13_readName_1 fl_RX13_202 (by decide) rfl ki_6 ?_
  refine q_istore_n dX13_readName_4 (Nat.le_of_ble_eq_true rfl) rfl ?_
  show mv_rq l G mX13_readName (d + 3) 5 [some (.ref m), some (.int (S.1 6)), none] [] (md_H G B m S) _
  refine q_aload_n dX13_readName_5 rfl ?_
  refine q_aload_n dX13_readName_6 rfl ?_
  refine r_geti 6 dX13_readName_7 fl_RX13_202 (by decide) rfl ki_6 ?_
  obtain ⟨v10, S10, e10, hq⟩ := md_b_e hq
  refine q_cV (Y := mX13_at) (As := [.int (S.1 6)]) (st := []) (b := m) (ci := 15) vc_X13_at dX13_readName_10 ml_RX13_212 rfl md_obj rfl (Nat.le_of_ble_eq_true rfl) rfl (Nat.le_of_ble_eq_true rfl) (ro_at (d := d + 2) hG hm e10) (fun v h1 hq1 => ?_) (fun E h1 hq1 => md_nQ hq1)
  obtain ⟨hv, rfl⟩ := hq1
  cases hv
  show mv_rq l G mX13_readName (d + 3) 13 [some (.ref m), some (.int (S.1 6)), none] [.int v10] (md_H G B m S10) _
  refine q_bipush (v := 34) dX13_readName_13 (by decide) ?_
  refine q_icmp_eq (tgt := 27) dX13_readName_15 (by decide) (fun c15 => ?_) (fun c15 => ?_)
  ·
    have hq := md_pos c15 hq
    refine q_aload_n dX13_readName_27 rfl ?_
    refine q_bipush (v := 34) dX13_readName_28 (by decide) ?_
    refine q_bipush (v := 92) dX13_readName_30 (by decide) ?_
    obtain ⟨S32, e32, hq⟩ := md_c_e hq
    refine q_cV (Y := mX13_readString) (As := [.int 34, .int 92]) (st := []) (b := m) (ci := 15) vc_X13_readString dX13_readName_32 ml_RX13_251 rfl md_obj rfl (Nat.le_of_ble_eq_true rfl) rfl (Nat.le_of_ble_eq_true rfl) (ro_readString (d := d) hG hm e32) (fun v h1 hq1 => ?_) (fun E h1 hq1 => md_nV hq1)
    obtain ⟨hv, rfl⟩ := hq1
    cases hv
    show mv_rq l G mX13_readName (d + 3) 35 [some (.ref m), some (.int (S.1 6)), none] [] (md_H G B m S32) _
    refine q_aload_n dX13_readName_35 rfl ?_
    obtain ⟨v36, S36, e36, hq⟩ := md_b_e hq
    refine q_cV (Y := mX13_good) (As := []) (st := []) (b := m) (ci := 15) vc_X13_good dX13_readName_36 ml_RX13_208 rfl md_obj rfl (Nat.le_of_ble_eq_true rfl) rfl (Nat.le_of_ble_eq_true rfl) (ro_good (d := d + 2) hG hm e36) (fun v h1 hq1 => ?_) (fun E h1 hq1 => md_nQ hq1)
    obtain ⟨hv, rfl⟩ := hq1
    cases hv
    show mv_rq l G mX13_readName (d + 3) 39 [some (.ref m), some (.int (S.1 6)), none] [.int v36] (md_H G B m S36) _
    refine q_if_ne (tgt := 43) dX13_readName_39 (by decide) (fun c39 => ?_) (fun c39 => ?_)
    ·
      have hq := md_neg c39 hq
      refine q_iconst (v := 0) dX13_readName_43 (by decide) ?_
      refine q_istore_n dX13_readName_44 (Nat.le_of_ble_eq_true rfl) rfl ?_
      show mv_rq l G mX13_readName (d + 3) 45 [some (.ref m), some (.int (S.1 6)), some (.int 0)] [] (md_H G B m S36) _
      refine mv_weak (A := [some (.ref m), some (.int (S.1 6)), some (.int 0)]) (by repeat' constructor) ?_
      exact ro_readName_l45 hG hm N hq
    ·
      have hq := md_pos c39 hq
      obtain rfl := Option.some.inj hq
      exact q_vret dX13_readName_42 rfl ⟨rfl, rfl⟩
  ·
    have hq := md_neg c15 hq
    refine q_aload_n dX13_readName_18 rfl ?_
    refine q_aload_n dX13_readName_19 rfl ?_
    refine r_geti 6 dX13_readName_20 fl_RX13_202 (by decide) rfl ki_6 ?_
    obtain ⟨S23, e23, hq⟩ := md_c_e hq
    refine q_cV (Y := mX13_fail) (As := [.int (S10.1 6)]) (st := []) (b := m) (ci := 15) vc_X13_fail dX13_readName_23 ml_RX13_216 rfl md_obj rfl (Nat.le_of_ble_eq_true rfl) rfl (Nat.le_of_ble_eq_true rfl) (ro_fail (d := d + 1) hG hm e23) (fun v h1 hq1 => ?_) (fun E h1 hq1 => md_nV hq1)
    obtain ⟨hv, rfl⟩ := hq1
    cases hv
    show mv_rq l G mX13_readName (d + 3) 26 [some (.ref m), some (.int (S.1 6)), none] [] (md_H G B m S23) _
    obtain rfl := Option.some.inj hq
    exact q_vret dX13_readName_26 rfl ⟨rfl, rfl⟩
def mo_shut_j21 (S : md_S) : Option md_S :=
  md_c (mo_fail (S.1 6) S) fun S26 =>
  some S26
theorem ro_shut_j21 {l : Launch} {G : mv_G} {B : mv_H} {m d : Nat} (hG : mv_ok G) (hm : G.2.2.1 ≤ m) {S : md_S} {q : md_S} (hq : mo_shut_j21  S = some q) : mv_rq l G mX13_shut (d + 2) 21 [some (.ref m), none] [] (md_H G B m S) (md_V G B m q) := by
  unfold mo_shut_j21 at hq
  refine q_aload_n dX13_shut_21 rfl ?_
  refine q_aload_n dX13_shut_22 rfl ?_
  refine r_geti 6 dX13_shut_23 fl_RX13_202 (by decide) rfl ki_6 ?_
  obtain ⟨S26, e26, hq⟩ := md_c_e hq
  refine q_cV (Y := mX13_fail) (As := [.int (S.1 6)]) (st := []) (b := m) (ci := 15) vc_X13_fail dX13_shut_26 ml_RX13_216 rfl md_obj rfl (Nat.le_of_ble_eq_true rfl) rfl (Nat.le_of_ble_eq_true rfl) (ro_fail (d := d) hG hm e26) (fun v h1 hq1 => ?_) (fun E h1 hq1 => md_nV hq1)
  obtain ⟨hv, rfl⟩ := hq1
  cases hv
  show mv_rq l G mX13_shut (d + 2) 29 [some (.ref m), none] [] (md_H G B m S26) _
  obtain rfl := Option.some.inj hq
  exact q_vret dX13_shut_29 rfl ⟨rfl, rfl⟩
def mo_shut (x1 : Int32) (S : md_S) : Option md_S :=
  md_b (mo_top S) fun v1 S1 =>
  if v1 = (-1) then
    mo_shut_j21  S1
  else
    md_b (mo_top S1) fun v13 S13 =>
    if md_in v13 41 then
    if (S13.2 12 v13.toNatClampNeg) = x1 then
      md_l (md_p S13 6 ((S13.1 6) + 1)) fun S37 =>
      md_l (md_p S37 21 ((S37.1 21) - 1)) fun S47 =>
      if md_in (S47.1 21) 8 then
      md_c (mo_finish (S47.2 20 (S47.1 21).toNatClampNeg) S47) fun S60 =>
      some S60
      else none
    else
      mo_shut_j21  S13
    else none
theorem ro_shut {l : Launch} {G : mv_G} {B : mv_H} {m d : Nat} (hG : mv_ok G) (hm : G.2.2.1 ≤ m) {x1 : Int32} {S : md_S} {q : md_S} (hq : mo_shut x1 S = some q) : mv_rq l G mX13_shut (d + 2) 0 (mv_in [.ref m, .int x1] 2) [] (md_H G B m S) (md_V G B m q) := by
  unfold mo_shut at hq
  show mv_rq l G mX13_shut (d + 2) 0 [some (.ref m), some (.int x1)] [] (md_H G B m S) _
  refine q_aload_n dX13_shut_0 rfl ?_
  obtain ⟨v1, S1, e1, hq⟩ := md_b_e hq
  refine q_cV (Y := mX13_top) (As := []) (st := []) (b := m) (ci := 15) vc_X13_top dX13_shut_1 ml_RX13_241 rfl md_obj rfl (Nat.le_of_ble_eq_true rfl) rfl (Nat.le_of_ble_eq_true rfl) (ro_top (d := d + 1) hG hm e1) (fun v h1 hq1 => ?_) (fun E h1 hq1 => md_nQ hq1)
  obtain ⟨hv, rfl⟩ := hq1
  cases hv
  show mv_rq l G mX13_shut (d + 2) 4 [some (.ref m), some (.int x1)] [.int v1] (md_H G B m S1) _
  refine q_iconst (v := (-1)) dX13_shut_4 (by decide) ?_
  refine q_icmp_eq (tgt := 21) dX13_shut_5 (by decide) (fun c5 => ?_) (fun c5 => ?_)
  ·
    have hq := md_pos c5 hq
    refine mv_weak (A := [some (.ref m), none]) (by repeat' constructor) ?_
    exact ro_shut_j21 hG hm hq
  ·
    have hq := md_neg c5 hq
    refine q_aload_n dX13_shut_8 rfl ?_
    refine r_geta 12 dX13_shut_9 fl_RX13_23 (by decide) rfl kk_12 ?_
    refine q_aload_n dX13_shut_12 rfl ?_
    obtain ⟨v13, S13, e13, hq⟩ := md_b_e hq
    refine q_cV (Y := mX13_top) (As := []) (st := [.ref (m + md_ad 12)]) (b := m) (ci := 15) vc_X13_top dX13_shut_13 ml_RX13_241 rfl md_obj rfl (Nat.le_of_ble_eq_true rfl) rfl (Nat.le_of_ble_eq_true rfl) (ro_top (d := d + 1) hG hm e13) (fun v h1 hq1 => ?_) (fun E h1 hq1 => md_nQ hq1)
    obtain ⟨hv, rfl⟩ := hq1
    cases hv
    show mv_rq l G mX13_shut (d + 2) 16 [some (.ref m), some (.int x1)] [.int v13, .ref (m + md_ad 12)] (md_H G B m S13) _
    obtain ⟨g16, hq⟩ := md_g hq
    refine r_iald hG 12 dX13_shut_16 kk_12 g16 ?_
    refine q_iload_n dX13_shut_17 rfl ?_
    refine q_icmp_eq (tgt := 30) dX13_shut_18 (by decide) (fun c18 => ?_) (fun c18 => ?_)
    ·
      have hq := md_pos c18 hq
      refine q_aload_n dX13_shut_30 rfl ?_
      refine q_dup dX13_shut_31 rfl ?_
      refine r_geti 6 dX13_shut_32 fl_RX13_202 (by decide) rfl ki_6 ?_
      refine q_iconst (v := 1) dX13_shut_35 (by decide) ?_
      refine q_iadd dX13_shut_36 ?_
      refine r_puti 6 .int dX13_shut_37 fl_RX13_202 (by decide) rfl ki_6 rfl kp_6 rfl rfl hm (fun S37 e37 => ?_)
      have hq := md_l_e e37 hq
      clear e37
      show mv_rq l G mX13_shut (d + 2) 40 [some (.ref m), some (.int x1)] [] (md_H G B m S37) _
      refine q_aload_n dX13_shut_40 rfl ?_
      refine q_dup dX13_shut_41 rfl ?_
      refine r_geti 21 dX13_shut_42 fl_RX13_235 (by decide) rfl ki_21 ?_
      refine q_iconst (v := 1) dX13_shut_45 (by decide) ?_
      refine q_isub dX13_shut_46 ?_
      refine r_puti 21 .int dX13_shut_47 fl_RX13_235 (by decide) rfl ki_21 rfl kp_21 rfl rfl hm (fun S47 e47 => ?_)
      have hq := md_l_e e47 hq
      clear e47
      show mv_rq l G mX13_shut (d + 2) 50 [some (.ref m), some (.int x1)] [] (md_H G B m S47) _
      refine q_aload_n dX13_shut_50 rfl ?_
      refine q_aload_n dX13_shut_51 rfl ?_
      refine r_geta 20 dX13_shut_52 fl_RX13_48 (by decide) rfl kk_20 ?_
      refine q_aload_n dX13_shut_55 rfl ?_
      refine r_geti 21 dX13_shut_56 fl_RX13_235 (by decide) rfl ki_21 ?_
      obtain ⟨g59, hq⟩ := md_g hq
      refine r_iald hG 20 dX13_shut_59 kk_20 g59 ?_
      obtain ⟨S60, e60, hq⟩ := md_c_e hq
      refine q_cV (Y := mX13_finish) (As := [.int (S47.2 20 (S47.1 21).toNatClampNeg)]) (st := []) (b := m) (ci := 15) vc_X13_finish dX13_shut_60 ml_RX13_268 rfl md_obj rfl (Nat.le_of_ble_eq_true rfl) rfl (Nat.le_of_ble_eq_true rfl) (ro_finish (d := d + 1) hG hm e60) (fun v h1 hq1 => ?_) (fun E h1 hq1 => md_nV hq1)
      obtain ⟨hv, rfl⟩ := hq1
      cases hv
      show mv_rq l G mX13_shut (d + 2) 63 [some (.ref m), some (.int x1)] [] (md_H G B m S60) _
      obtain rfl := Option.some.inj hq
      exact q_vret dX13_shut_63 rfl ⟨rfl, rfl⟩
    ·
      have hq := md_neg c18 hq
      refine mv_weak (A := [some (.ref m), none]) (by repeat' constructor) ?_
      exact ro_shut_j21 hG hm hq
def mo_readStep_j179 (N : Nat) (y0 : Int32) (S : md_S) : Option (Int32 × md_S) :=
  some (y0, S)
theorem ro_readStep_j179 {l : Launch} {G : mv_G} {B : mv_H} {m N d : Nat} (hG : mv_ok G) (hm : G.2.2.1 ≤ m) {y0 : Int32} {S : md_S} {q : (Int32 × md_S)} (hq : mo_readStep_j179 N y0 S = some q) : mv_rq l G mX13_readStep (d + 5) 179 [none, none, none, none] [.int y0] (md_H G B m S) (md_Q G B m q) := by
  unfold mo_readStep_j179 at hq
  obtain rfl := Option.some.inj hq
  exact q_iret (ty := .int) dX13_readStep_179 rfl rfl ⟨rfl, rfl⟩
def mo_readStep_j160 (N : Nat) (S : md_S) : Option (Int32 × md_S) :=
  mo_readStep_j179 N 4 S
theorem ro_readStep_j160 {l : Launch} {G : mv_G} {B : mv_H} {m N d : Nat} (hG : mv_ok G) (hm : G.2.2.1 ≤ m) {S : md_S} {q : (Int32 × md_S)} (hq : mo_readStep_j160 N  S = some q) : mv_rq l G mX13_readStep (d + 5) 160 [none, none, none, none] [] (md_H G B m S) (md_Q G B m q) := by
  unfold mo_readStep_j160 at hq
  refine q_iconst (v := 4) dX13_readStep_160 (by decide) ?_
  refine q_goto (tgt := 179) dX13_readStep_161 (by decide) ?_
  refine mv_weak (A := [none, none, none, none]) (by repeat' constructor) ?_
  exact ro_readStep_j179 hG hm hq
def mo_readStep_j87 (N : Nat) (S : md_S) : Option (Int32 × md_S) :=
  md_c (mo_fail (S.1 6) S) fun S92 =>
  some (4, S92)
theorem ro_readStep_j87 {l : Launch} {G : mv_G} {B : mv_H} {m N d : Nat} (hG : mv_ok G) (hm : G.2.2.1 ≤ m) {S : md_S} {q : (Int32 × md_S)} (hq : mo_readStep_j87 N  S = some q) : mv_rq l G mX13_readStep (d + 5) 87 [some (.ref m), none, none, none] [] (md_H G B m S) (md_Q G B m q) := by
  unfold mo_readStep_j87 at hq
  refine q_aload_n dX13_readStep_87 rfl ?_
  refine q_aload_n dX13_readStep_88 rfl ?_
  refine r_geti 6 dX13_readStep_89 fl_RX13_202 (by decide) rfl ki_6 ?_
  obtain ⟨S92, e92, hq⟩ := md_c_e hq
  refine q_cV (Y := mX13_fail) (As := [.int (S.1 6)]) (st := []) (b := m) (ci := 15) vc_X13_fail dX13_readStep_92 ml_RX13_216 rfl md_obj rfl (Nat.le_of_ble_eq_true rfl) rfl (Nat.le_of_ble_eq_true rfl) (ro_fail (d := d + 3) hG hm e92) (fun v h1 hq1 => ?_) (fun E h1 hq1 => md_nV hq1)
  obtain ⟨hv, rfl⟩ := hq1
  cases hv
  show mv_rq l G mX13_readStep (d + 5) 95 [some (.ref m), none, none, none] [] (md_H G B m S92) _
  refine q_iconst (v := 4) dX13_readStep_95 (by decide) ?_
  obtain rfl := Option.some.inj hq
  exact q_iret (ty := .int) dX13_readStep_96 rfl rfl ⟨rfl, rfl⟩
def mo_readStep_j122 (N : Nat) (y0 : Int32) (S : md_S) : Option (Int32 × md_S) :=
  some (y0, S)
theorem ro_readStep_j122 {l : Launch} {G : mv_G} {B : mv_H} {m N d : Nat} (hG : mv_ok G) (hm : G.2.2.1 ≤ m) {y0 : Int32} {S : md_S} {q : (Int32 × md_S)} (hq : mo_readStep_j122 N y0 S = some q) : mv_rq l G mX13_readStep (d + 5) 122 [none, none, none, none] [.int y0] (md_H G B m S) (md_Q G B m q) := by
  unfold mo_readStep_j122 at hq
  obtain rfl := Option.some.inj hq
  exact q_iret (ty := .int) dX13_readStep_122 rfl rfl ⟨rfl, rfl⟩
def mo_readStep_j66 (N : Nat) (x1 : Int32) (x2 : Int32) (S : md_S) : Option (Int32 × md_S) :=
  if x1 = 4 then
    md_b (mo_top S) fun v72 S72 =>
    if x2 = 44 then
      if v72 = (-1) then
        mo_readStep_j87 N  S72
      else
        md_l (md_p S72 6 ((S72.1 6) + 1)) fun S104 =>
        if md_in v72 41 then
        if (S104.2 12 v72.toNatClampNeg) = 5 then
          mo_readStep_j122 N 0 S104
        else
          mo_readStep_j122 N 3 S104
        else none
    else
      mo_readStep_j87 N  S72
  else
    if x1 ≤ 1 then
      md_c (mo_readValue N S) fun S140 =>
      md_b (mo_good S140) fun v144 S144 =>
      if v144 = 0 then
        mo_readStep_j160 N  S144
      else
        if md_in (S.1 10) 41 then
        if 5 ≤ (S144.2 12 (S.1 10).toNatClampNeg) then
          if md_in (S.1 10) 41 then
          if (S144.2 12 (S.1 10).toNatClampNeg) = 5 then
            mo_readStep_j179 N 1 S144
          else
            mo_readStep_j179 N 2 S144
          else none
        else
          mo_readStep_j160 N  S144
        else none
    else
      md_c (mo_readName N S) fun S129 =>
      some (0, S129)
theorem ro_readStep_j66 {l : Launch} {G : mv_G} {B : mv_H} {m N d : Nat} (hG : mv_ok G) (hm : G.2.2.1 ≤ m) {x1 : Int32} {x2 : Int32} {S : md_S} {q : (Int32 × md_S)} (hq : mo_readStep_j66 N x1 x2 S = some q) : mv_rq l G mX13_readStep (d + 5) 66 [some (.ref m), some (.int x1), some (.int x2), none] [] (md_H G B m S) (md_Q G B m q) := by
  unfold mo_readStep_j66 at hq
  refine q_iload_n dX13_readStep_66 rfl ?_
  refine q_iconst (v := 4) dX13_readStep_67 (by decide) ?_
  refine q_icmp_ne (tgt := 123) dX13_readStep_68 (by decide) (fun c68 => ?_) (fun c68 => ?_)
  ·
    have hq := md_neg c68 hq
    refine q_iload_n dX13_readStep_123 rfl ?_
    refine q_iconst (v := 1) dX13_readStep_124 (by decide) ?_
    refine q_icmp_le (tgt := 134) dX13_readStep_125 (by decide) (fun c125 => ?_) (fun c125 => ?_)
    ·
      have hq := md_pos c125 hq
      refine q_aload_n dX13_readStep_134 rfl ?_
      refine r_geti 10 dX13_readStep_135 fl_RX13_238 (by decide) rfl ki_10 ?_
      refine q_istore_n dX13_readStep_138 (Nat.le_of_ble_eq_true rfl) rfl ?_
      show mv_rq l G mX13_readStep (d + 5) 139 [some (.ref m), some (.int x1), some (.int x2), some (.int (S.1 10))] [] (md_H G B m S) _
      refine q_aload_n dX13_readStep_139 rfl ?_
      obtain ⟨S140, e140, hq⟩ := md_c_e hq
      refine q_cV (Y := mX13_readValue) (As := []) (st := []) (b := m) (ci := 15) vc_X13_readValue dX13_readStep_140 ml_RX13_284 rfl md_obj rfl (Nat.le_of_ble_eq_true rfl) rfl (Nat.le_of_ble_eq_true rfl) (ro_readValue (d := d) hG hm e140) (fun v h1 hq1 => ?_) (fun E h1 hq1 => md_nV hq1)
      obtain ⟨hv, rfl⟩ := hq1
      cases hv
      show mv_rq l G mX13_readStep (d + 5) 143 [some (.ref m), some (.int x1), some (.int x2), some (.int (S.1 10))] [] (md_H G B m S140) _
      refine q_aload_n dX13_readStep_143 rfl ?_
      obtain ⟨v144, S144, e144, hq⟩ := md_b_e hq
      refine q_cV (Y := mX13_good) (As := []) (st := []) (b := m) (ci := 15) vc_X13_good dX13_readStep_144 ml_RX13_208 rfl md_obj rfl (Nat.le_of_ble_eq_true rfl) rfl (Nat.le_of_ble_eq_true rfl) (ro_good (d := d + 4) hG hm e144) (fun v h1 hq1 => ?_) (fun E h1 hq1 => md_nQ hq1)
      obtain ⟨hv, rfl⟩ := hq1
      cases hv
      show mv_rq l G mX13_readStep (d + 5) 147 [some (.ref m), some (.int x1), some (.int x2), some (.int (S.1 10))] [.int v144] (md_H G B m S144) _
      refine q_if_eq (tgt := 160) dX13_readStep_147 (by decide) (fun c147 => ?_) (fun c147 => ?_)
      ·
        have hq := md_pos c147 hq
        refine mv_weak (A := [none, none, none, none]) (by repeat' constructor) ?_
        exact ro_readStep_j160 hG hm hq
      ·
        have hq := md_neg c147 hq
        refine q_aload_n dX13_readStep_150 rfl ?_
        refine r_geta 12 dX13_readStep_151 fl_RX13_23 (by decide) rfl kk_12 ?_
        refine q_iload_n dX13_readStep_154 rfl ?_
        obtain ⟨g155, hq⟩ := md_g hq
        refine r_iald hG 12 dX13_readStep_155 kk_12 g155 ?_
        refine q_iconst (v := 5) dX13_readStep_156 (by decide) ?_
        refine q_icmp_ge (tgt := 164) dX13_readStep_157 (by decide) (fun c157 => ?_) (fun c157 => ?_)
        ·
          have hq := md_pos c157 hq
          refine q_aload_n dX13_readStep_164 rfl ?_
          refine r_geta 12 dX13_readStep_165 fl_RX13_23 (by decide) rfl kk_12 ?_
          refine q_iload_n dX13_readStep_168 rfl ?_
          obtain ⟨g169, hq⟩ := md_g hq
          refine r_iald hG 12 dX13_readStep_169 kk_12 g169 ?_
          refine q_iconst (v := 5) dX13_readStep_170 (by decide) ?_
          refine q_icmp_ne (tgt := 178) dX13_readStep_171 (by decide) (fun c171 => ?_) (fun c171 => ?_)
          ·
            have hq := md_neg c171 hq
            refine q_iconst (v := 2) dX13_readStep_178 (by decide) ?_
            refine mv_weak (A := [none, none, none, none]) (by repeat' constructor) ?_
            exact ro_readStep_j179 hG hm hq
          ·
            have hq := md_pos c171 hq
            refine q_iconst (v := 1) dX13_readStep_174 (by decide) ?_
            refine q_goto (tgt := 179) dX13_readStep_175 (by decide) ?_
            refine mv_weak (A := [none, none, none, none]) (by repeat' constructor) ?_
            exact ro_readStep_j179 hG hm hq
        ·
          have hq := md_neg c157 hq
          refine mv_weak (A := [none, none, none, none]) (by repeat' constructor) ?_
          exact ro_readStep_j160 hG hm hq
    ·
      have hq := md_neg c125 hq
      refine q_aload_n dX13_readStep_128 rfl ?_
      obtain ⟨S129, e129, hq⟩ := md_c_e hq
      refine q_cV (Y := mX13_readName) (As := []) (st := []) (b := m) (ci := 15) vc_X13_readName dX13_readStep_129 ml_RX13_281 rfl md_obj rfl (Nat.le_of_ble_eq_true rfl) rfl (Nat.le_of_ble_eq_true rfl) (ro_readName (d := d + 1) hG hm e129) (fun v h1 hq1 => ?_) (fun E h1 hq1 => md_nV hq1)
      obtain ⟨hv, rfl⟩ := hq1
      cases hv
      show mv_rq l G mX13_readStep (d + 5) 132 [some (.ref m), some (.int x1), some (.int x2), none] [] (md_H G B m S129) _
      refine q_iconst (v := 0) dX13_readStep_132 (by decide) ?_
      obtain rfl := Option.some.inj hq
      exact q_iret (ty := .int) dX13_readStep_133 rfl rfl ⟨rfl, rfl⟩
  ·
    have hq := md_pos c68 hq
    refine q_aload_n dX13_readStep_71 rfl ?_
    obtain ⟨v72, S72, e72, hq⟩ := md_b_e hq
    refine q_cV (Y := mX13_top) (As := []) (st := []) (b := m) (ci := 15) vc_X13_top dX13_readStep_72 ml_RX13_241 rfl md_obj rfl (Nat.le_of_ble_eq_true rfl) rfl (Nat.le_of_ble_eq_true rfl) (ro_top (d := d + 4) hG hm e72) (fun v h1 hq1 => ?_) (fun E h1 hq1 => md_nQ hq1)
    obtain ⟨hv, rfl⟩ := hq1
    cases hv
    show mv_rq l G mX13_readStep (d + 5) 75 [some (.ref m), some (.int x1), some (.int x2), none] [.int v72] (md_H G B m S72) _
    refine q_istore_n dX13_readStep_75 (Nat.le_of_ble_eq_true rfl) rfl ?_
    show mv_rq l G mX13_readStep (d + 5) 76 [some (.ref m), some (.int x1), some (.int x2), some (.int v72)] [] (md_H G B m S72) _
    refine q_iload_n dX13_readStep_76 rfl ?_
    refine q_bipush (v := 44) dX13_readStep_77 (by decide) ?_
    refine q_icmp_ne (tgt := 87) dX13_readStep_79 (by decide) (fun c79 => ?_) (fun c79 => ?_)
    ·
      have hq := md_neg c79 hq
      refine mv_weak (A := [some (.ref m), none, none, none]) (by repeat' constructor) ?_
      exact ro_readStep_j87 hG hm hq
    ·
      have hq := md_pos c79 hq
      refine q_iload_n dX13_readStep_82 rfl ?_
      refine q_iconst (v := (-1)) dX13_readStep_83 (by decide) ?_
      refine q_icmp_ne (tgt := 97) dX13_readStep_84 (by decide) (fun c84 => ?_) (fun c84 => ?_)
      ·
        have hq := md_neg c84 hq
        refine q_aload_n dX13_readStep_97 rfl ?_
        refine q_dup dX13_readStep_98 rfl ?_
        refine r_geti 6 dX13_readStep_99 fl_RX13_202 (by decide) rfl ki_6 ?_
        refine q_iconst (v := 1) dX13_readStep_102 (by decide) ?_
        refine q_iadd dX13_readStep_103 ?_
        refine r_puti 6 .int dX13_readStep_104 fl_RX13_202 (by decide) rfl ki_6 rfl kp_6 rfl rfl hm (fun S104 e104 => ?_)
        have hq := md_l_e e104 hq
        clear e104
        show mv_rq l G mX13_readStep (d + 5) 107 [some (.ref m), some (.int x1), some (.int x2), some (.int v72)] [] (md_H G B m S104) _
        refine q_aload_n dX13_readStep_107 rfl ?_
        refine r_geta 12 dX13_readStep_108 fl_RX13_23 (by decide) rfl kk_12 ?_
        refine q_iload_n dX13_readStep_111 rfl ?_
        obtain ⟨g112, hq⟩ := md_g hq
        refine r_iald hG 12 dX13_readStep_112 kk_12 g112 ?_
        refine q_iconst (v := 5) dX13_readStep_113 (by decide) ?_
        refine q_icmp_ne (tgt := 121) dX13_readStep_114 (by decide) (fun c114 => ?_) (fun c114 => ?_)
        ·
          have hq := md_neg c114 hq
          refine q_iconst (v := 3) dX13_readStep_121 (by decide) ?_
          refine mv_weak (A := [none, none, none, none]) (by repeat' constructor) ?_
          exact ro_readStep_j122 hG hm hq
        ·
          have hq := md_pos c114 hq
          refine q_iconst (v := 0) dX13_readStep_117 (by decide) ?_
          refine q_goto (tgt := 122) dX13_readStep_118 (by decide) ?_
          refine mv_weak (A := [none, none, none, none]) (by repeat' constructor) ?_
          exact ro_readStep_j122 hG hm hq
      ·
        have hq := md_pos c84 hq
        refine mv_weak (A := [some (.ref m), none, none, none]) (by repeat' constructor) ?_
        exact ro_readStep_j87 hG hm hq
def mo_readStep_j61 (N : Nat) (y0 : Int32) (S : md_S) : Option (Int32 × md_S) :=
  md_c (mo_shut y0 S) fun S61 =>
  some (4, S61)
theorem ro_readStep_j61 {l : Launch} {G : mv_G} {B : mv_H} {m N d : Nat} (hG : mv_ok G) (hm : G.2.2.1 ≤ m) {y0 : Int32} {S : md_S} {q : (Int32 × md_S)} (hq : mo_readStep_j61 N y0 S = some q) : mv_rq l G mX13_readStep (d + 5) 61 [none, none, none, none] [.int y0, .ref m] (md_H G B m S) (md_Q G B m q) := by
  unfold mo_readStep_j61 at hq
  obtain ⟨S61, e61, hq⟩ := md_c_e hq
  refine q_cV (Y := mX13_shut) (As := [.int y0]) (st := []) (b := m) (ci := 15) vc_X13_shut dX13_readStep_61 ml_RX13_278 rfl md_obj rfl (Nat.le_of_ble_eq_true rfl) rfl (Nat.le_of_ble_eq_true rfl) (ro_shut (d := d + 2) hG hm e61) (fun v h1 hq1 => ?_) (fun E h1 hq1 => md_nV hq1)
  obtain ⟨hv, rfl⟩ := hq1
  cases hv
  show mv_rq l G mX13_readStep (d + 5) 64 [none, none, none, none] [] (md_H G B m S61) _
  refine q_iconst (v := 4) dX13_readStep_64 (by decide) ?_
  obtain rfl := Option.some.inj hq
  exact q_iret (ty := .int) dX13_readStep_65 rfl rfl ⟨rfl, rfl⟩
def mo_readStep_j48 (N : Nat) (x2 : Int32) (S : md_S) : Option (Int32 × md_S) :=
  if x2 = 93 then
    mo_readStep_j61 N 5 S
  else
    mo_readStep_j61 N 6 S
theorem ro_readStep_j48 {l : Launch} {G : mv_G} {B : mv_H} {m N d : Nat} (hG : mv_ok G) (hm : G.2.2.1 ≤ m) {x2 : Int32} {S : md_S} {q : (Int32 × md_S)} (hq : mo_readStep_j48 N x2 S = some q) : mv_rq l G mX13_readStep (d + 5) 48 [some (.ref m), none, some (.int x2), none] [] (md_H G B m S) (md_Q G B m q) := by
  unfold mo_readStep_j48 at hq
  refine q_aload_n dX13_readStep_48 rfl ?_
  refine q_iload_n dX13_readStep_49 rfl ?_
  refine q_bipush (v := 93) dX13_readStep_50 (by decide) ?_
  refine q_icmp_ne (tgt := 59) dX13_readStep_52 (by decide) (fun c52 => ?_) (fun c52 => ?_)
  ·
    have hq := md_neg c52 hq
    refine q_bipush (v := 6) dX13_readStep_59 (by decide) ?_
    refine mv_weak (A := [none, none, none, none]) (by repeat' constructor) ?_
    exact ro_readStep_j61 hG hm hq
  ·
    have hq := md_pos c52 hq
    refine q_iconst (v := 5) dX13_readStep_55 (by decide) ?_
    refine q_goto (tgt := 61) dX13_readStep_56 (by decide) ?_
    refine mv_weak (A := [none, none, none, none]) (by repeat' constructor) ?_
    exact ro_readStep_j61 hG hm hq
def mo_readStep_j31 (N : Nat) (x1 : Int32) (x2 : Int32) (S : md_S) : Option (Int32 × md_S) :=
  if x1 = 4 then
    if x2 = 93 then
      mo_readStep_j48 N x2 S
    else
      if x2 = 125 then
        mo_readStep_j48 N x2 S
      else
        mo_readStep_j66 N x1 x2 S
  else
    mo_readStep_j66 N x1 x2 S
theorem ro_readStep_j31 {l : Launch} {G : mv_G} {B : mv_H} {m N d : Nat} (hG : mv_ok G) (hm : G.2.2.1 ≤ m) {x1 : Int32} {x2 : Int32} {S : md_S} {q : (Int32 × md_S)} (hq : mo_readStep_j31 N x1 x2 S = some q) : mv_rq l G mX13_readStep (d + 5) 31 [some (.ref m), some (.int x1), some (.int x2), none] [] (md_H G B m S) (md_Q G B m q) := by
  unfold mo_readStep_j31 at hq
  refine q_iload_n dX13_readStep_31 rfl ?_
  refine q_iconst (v := 4) dX13_readStep_32 (by decide) ?_
  refine q_icmp_ne (tgt := 66) dX13_readStep_33 (by decide) (fun c33 => ?_) (fun c33 => ?_)
  ·
    have hq := md_neg c33 hq
    refine mv_weak (A := [some (.ref m), some (.int x1), some (.int x2), none]) (by repeat' constructor) ?_
    exact ro_readStep_j66 hG hm hq
  ·
    have hq := md_pos c33 hq
    refine q_iload_n dX13_readStep_36 rfl ?_
    refine q_bipush (v := 93) dX13_readStep_37 (by decide) ?_
    refine q_icmp_eq (tgt := 48) dX13_readStep_39 (by decide) (fun c39 => ?_) (fun c39 => ?_)
    ·
      have hq := md_pos c39 hq
      refine mv_weak (A := [some (.ref m), none, some (.int x2), none]) (by repeat' constructor) ?_
      exact ro_readStep_j48 hG hm hq
    ·
      have hq := md_neg c39 hq
      refine q_iload_n dX13_readStep_42 rfl ?_
      refine q_bipush (v := 125) dX13_readStep_43 (by decide) ?_
      refine q_icmp_ne (tgt := 66) dX13_readStep_45 (by decide) (fun c45 => ?_) (fun c45 => ?_)
      ·
        have hq := md_neg c45 hq
        refine mv_weak (A := [some (.ref m), some (.int x1), some (.int x2), none]) (by repeat' constructor) ?_
        exact ro_readStep_j66 hG hm hq
      ·
        have hq := md_pos c45 hq
        refine mv_weak (A := [some (.ref m), none, some (.int x2), none]) (by repeat' constructor) ?_
        exact ro_readStep_j48 hG hm hq
def mo_readStep_j20 (N : Nat) (x1 : Int32) (x2 : Int32) (S : md_S) : Option (Int32 × md_S) :=
  if x1 = 2 then
    if x2 = 125 then
      mo_readStep_j48 N x2 S
    else
      mo_readStep_j31 N x1 x2 S
  else
    mo_readStep_j31 N x1 x2 S
theorem ro_readStep_j20 {l : Launch} {G : mv_G} {B : mv_H} {m N d : Nat} (hG : mv_ok G) (hm : G.2.2.1 ≤ m) {x1 : Int32} {x2 : Int32} {S : md_S} {q : (Int32 × md_S)} (hq : mo_readStep_j20 N x1 x2 S = some q) : mv_rq l G mX13_readStep (d + 5) 20 [some (.ref m), some (.int x1), some (.int x2), none] [] (md_H G B m S) (md_Q G B m q) := by
  unfold mo_readStep_j20 at hq
  refine q_iload_n dX13_readStep_20 rfl ?_
  refine q_iconst (v := 2) dX13_readStep_21 (by decide) ?_
  refine q_icmp_ne (tgt := 31) dX13_readStep_22 (by decide) (fun c22 => ?_) (fun c22 => ?_)
  ·
    have hq := md_neg c22 hq
    refine mv_weak (A := [some (.ref m), some (.int x1), some (.int x2), none]) (by repeat' constructor) ?_
    exact ro_readStep_j31 hG hm hq
  ·
    have hq := md_pos c22 hq
    refine q_iload_n dX13_readStep_25 rfl ?_
    refine q_bipush (v := 125) dX13_readStep_26 (by decide) ?_
    refine q_icmp_eq (tgt := 48) dX13_readStep_28 (by decide) (fun c28 => ?_) (fun c28 => ?_)
    ·
      have hq := md_pos c28 hq
      refine mv_weak (A := [some (.ref m), none, some (.int x2), none]) (by repeat' constructor) ?_
      exact ro_readStep_j48 hG hm hq
    ·
      have hq := md_neg c28 hq
      refine mv_weak (A := [some (.ref m), some (.int x1), some (.int x2), none]) (by repeat' constructor) ?_
      exact ro_readStep_j31 hG hm hq
def mo_readStep (N : Nat) (x1 : Int32) (S : md_S) : Option (Int32 × md_S) :=
  md_b (mo_at (S.1 6) S) fun v5 S5 =>
  if x1 = 1 then
    if v5 = 93 then
      mo_readStep_j48 N v5 S5
    else
      mo_readStep_j20 N x1 v5 S5
  else
    mo_readStep_j20 N x1 v5 S5
theorem ro_readStep {l : Launch} {G : mv_G} {B : mv_H} {m N d : Nat} (hG : mv_ok G) (hm : G.2.2.1 ≤ m) {x1 : Int32} {S : md_S} {q : (Int32 × md_S)} (hq : mo_readStep N x1 S = some q) : mv_rq l G mX13_readStep (d + 5) 0 (mv_in [.ref m, .int x1] 4) [] (md_H G B m S) (md_Q G B m q) := by
  unfold mo_readStep at hq
  show mv_rq l G mX13_readStep (d + 5) 0 [some (.ref m), some (.int x1), none, none] [] (md_H G B m S) _
  refine q_aload_n dX13_readStep_0 rfl ?_
  refine q_aload_n dX13_readStep_1 rfl ?_
  refine r_geti 6 dX13_readStep_2 fl_RX13_202 (by decide) rfl ki_6 ?_
  obtain ⟨v5, S5, e5, hq⟩ := md_b_e hq
  refine q_cV (Y := mX13_at) (As := [.int (S.1 6)]) (st := []) (b := m) (ci := 15) vc_X13_at dX13_readStep_5 ml_RX13_212 rfl md_obj rfl (Nat.le_of_ble_eq_true rfl) rfl (Nat.le_of_ble_eq_true rfl) (ro_at (d := d + 4) hG hm e5) (fun v h1 hq1 => ?_) (fun E h1 hq1 => md_nQ hq1)
  obtain ⟨hv, rfl⟩ := hq1
  cases hv
  show mv_rq l G mX13_readStep (d + 5) 8 [some (.ref m), some (.int x1), none, none] [.int v5] (md_H G B m S5) _
  refine q_istore_n dX13_readStep_8 (Nat.le_of_ble_eq_true rfl) rfl ?_
  show mv_rq l G mX13_readStep (d + 5) 9 [some (.ref m), some (.int x1), some (.int v5), none] [] (md_H G B m S5) _
  refine q_iload_n dX13_readStep_9 rfl ?_
  refine q_iconst (v := 1) dX13_readStep_10 (by decide) ?_
  refine q_icmp_ne (tgt := 20) dX13_readStep_11 (by decide) (fun c11 => ?_) (fun c11 => ?_)
  ·
    have hq := md_neg c11 hq
    refine mv_weak (A := [some (.ref m), some (.int x1), some (.int v5), none]) (by repeat' constructor) ?_
    exact ro_readStep_j20 hG hm hq
  ·
    have hq := md_pos c11 hq
    refine q_iload_n dX13_readStep_14 rfl ?_
    refine q_bipush (v := 93) dX13_readStep_15 (by decide) ?_
    refine q_icmp_eq (tgt := 48) dX13_readStep_17 (by decide) (fun c17 => ?_) (fun c17 => ?_)
    ·
      have hq := md_pos c17 hq
      refine mv_weak (A := [some (.ref m), none, some (.int v5), none]) (by repeat' constructor) ?_
      exact ro_readStep_j48 hG hm hq
    ·
      have hq := md_neg c17 hq
      refine mv_weak (A := [some (.ref m), some (.int x1), some (.int v5), none]) (by repeat' constructor) ?_
      exact ro_readStep_j20 hG hm hq
def mo_readDocument_l24 (N : Nat) : Nat → Int32 → Int32 → md_S → Option md_S
  | 0, _, _, _ => none
  | n + 1, x1, x2, S =>
    if x2 = 0 then
      some S
    else
      md_b (mo_good S) fun v29 S29 =>
      if v29 = 0 then
        some S29
      else
        md_c (mo_blanks N S29) fun S36 =>
        md_b (mo_at (S36.1 6) S36) fun v44 S44 =>
        if v44 = (-1) then
          if x1 = 4 then
            if (S44.1 21) ≤ 0 then
              mo_readDocument_l24 N n x1 0 S44
            else
              md_c (mo_fail (S44.1 6) S44) fun S70 =>
              mo_readDocument_l24 N n x1 0 S70
          else
            md_c (mo_fail (S44.1 6) S44) fun S70 =>
            mo_readDocument_l24 N n x1 0 S70
        else
          md_b (mo_readStep N x1 S44) fun v78 S78 =>
          mo_readDocument_l24 N n v78 x2 S78
theorem ro_readDocument_l24 {l : Launch} {G : mv_G} {B : mv_H} {m N d : Nat} (hG : mv_ok G) (hm : G.2.2.1 ≤ m) : ∀ n : Nat, ∀ {x1 : Int32} {x2 : Int32} {S : md_S} {q : md_S}, mo_readDocument_l24 N n x1 x2 S = some q → mv_rq l G mX13_readDocument (d + 6) 24 [some (.ref m), some (.int x1), some (.int x2)] [] (md_H G B m S) (md_V G B m q)
  | 0, _, _, _, _, hq => nomatch hq
  | n + 1, x1, x2, S, q, hq => by
    rw [mo_readDocument_l24] at hq
    refine q_iload_n dX13_readDocument_24 rfl ?_
    refine q_if_eq (tgt := 85) dX13_readDocument_25 (by decide) (fun c25 => ?_) (fun c25 => ?_)
    ·
      have hq := md_pos c25 hq
      obtain rfl := Option.some.inj hq
      exact q_vret dX13_readDocument_85 rfl ⟨rfl, rfl⟩
    ·
      have hq := md_neg c25 hq
      refine q_aload_n dX13_readDocument_28 rfl ?_
      obtain ⟨v29, S29, e29, hq⟩ := md_b_e hq
      refine q_cV (Y := mX13_good) (As := []) (st := []) (b := m) (ci := 15) vc_X13_good dX13_readDocument_29 ml_RX13_208 rfl md_obj rfl (Nat.le_of_ble_eq_true rfl) rfl (Nat.le_of_ble_eq_true rfl) (ro_good (d := d + 5) hG hm e29) (fun v h1 hq1 => ?_) (fun E h1 hq1 => md_nQ hq1)
      obtain ⟨hv, rfl⟩ := hq1
      cases hv
      show mv_rq l G mX13_readDocument (d + 6) 32 [some (.ref m), some (.int x1), some (.int x2)] [.int v29] (md_H G B m S29) _
      refine q_if_eq (tgt := 85) dX13_readDocument_32 (by decide) (fun c32 => ?_) (fun c32 => ?_)
      ·
        have hq := md_pos c32 hq
        obtain rfl := Option.some.inj hq
        exact q_vret dX13_readDocument_85 rfl ⟨rfl, rfl⟩
      ·
        have hq := md_neg c32 hq
        refine q_aload_n dX13_readDocument_35 rfl ?_
        obtain ⟨S36, e36, hq⟩ := md_c_e hq
        refine q_cV (Y := mX13_blanks) (As := []) (st := []) (b := m) (ci := 15) vc_X13_blanks dX13_readDocument_36 ml_RX13_275 rfl md_obj rfl (Nat.le_of_ble_eq_true rfl) rfl (Nat.le_of_ble_eq_true rfl) (ro_blanks (d := d + 4) hG hm e36) (fun v h1 hq1 => ?_) (fun E h1 hq1 => md_nV hq1)
        obtain ⟨hv, rfl⟩ := hq1
        cases hv
        show mv_rq l G mX13_readDocument (d + 6) 39 [some (.ref m), some (.int x1), some (.int x2)] [] (md_H G B m S36) _
        refine q_aload_n dX13_readDocument_39 rfl ?_
        refine q_aload_n dX13_readDocument_40 rfl ?_
        refine r_geti 6 dX13_readDocument_41 fl_RX13_202 (by decide) rfl ki_6 ?_
        obtain ⟨v44, S44, e44, hq⟩ := md_b_e hq
        refine q_cV (Y := mX13_at) (As := [.int (S36.1 6)]) (st := []) (b := m) (ci := 15) vc_X13_at dX13_readDocument_44 ml_RX13_212 rfl md_obj rfl (Nat.le_of_ble_eq_true rfl) rfl (Nat.le_of_ble_eq_true rfl) (ro_at (d := d + 5) hG hm e44) (fun v h1 hq1 => ?_) (fun E h1 hq1 => md_nQ hq1)
        obtain ⟨hv, rfl⟩ := hq1
        cases hv
        show mv_rq l G mX13_readDocument (d + 6) 47 [some (.ref m), some (.int x1), some (.int x2)] [.int v44] (md_H G B m S44) _
        refine q_iconst (v := (-1)) dX13_readDocument_47 (by decide) ?_
        refine q_icmp_ne (tgt := 76) dX13_readDocument_48 (by decide) (fun c48 => ?_) (fun c48 => ?_)
        ·
          have hq := md_neg c48 hq
          refine q_aload_n dX13_readDocument_76 rfl ?_
          refine q_iload_n dX13_readDocument_77 rfl ?_
          obtain ⟨v78, S78, e78, hq⟩ := md_b_e hq
          refine q_cV (Y := mX13_readStep) (As := [.int x1]) (st := []) (b := m) (ci := 15) vc_X13_readStep dX13_readDocument_78 ml_RX13_287 rfl md_obj rfl (Nat.le_of_ble_eq_true rfl) rfl (Nat.le_of_ble_eq_true rfl) (ro_readStep (d := d) hG hm e78) (fun v h1 hq1 => ?_) (fun E h1 hq1 => md_nQ hq1)
          obtain ⟨hv, rfl⟩ := hq1
          cases hv
          show mv_rq l G mX13_readDocument (d + 6) 81 [some (.ref m), some (.int x1), some (.int x2)] [.int v78] (md_H G B m S78) _
          refine q_istore_n dX13_readDocument_81 (Nat.le_of_ble_eq_true rfl) rfl ?_
          show mv_rq l G mX13_readDocument (d + 6) 82 [some (.ref m), some (.int v78), some (.int x2)] [] (md_H G B m S78) _
          refine q_goto (tgt := 24) dX13_readDocument_82 (by decide) ?_
          refine mv_weak (A := [some (.ref m), some (.int v78), some (.int x2)]) (by repeat' constructor) ?_
          exact ro_readDocument_l24 hG hm n hq
        ·
          have hq := md_pos c48 hq
          refine q_iconst (v := 0) dX13_readDocument_51 (by decide) ?_
          refine q_istore_n dX13_readDocument_52 (Nat.le_of_ble_eq_true rfl) rfl ?_
          show mv_rq l G mX13_readDocument (d + 6) 53 [some (.ref m), some (.int x1), some (.int 0)] [] (md_H G B m S44) _
          refine q_iload_n dX13_readDocument_53 rfl ?_
          refine q_iconst (v := 4) dX13_readDocument_54 (by decide) ?_
          refine q_icmp_ne (tgt := 65) dX13_readDocument_55 (by decide) (fun c55 => ?_) (fun c55 => ?_)
          ·
            have hq := md_neg c55 hq
            refine q_aload_n dX13_readDocument_65 rfl ?_
            refine q_aload_n dX13_readDocument_66 rfl ?_
            refine r_geti 6 dX13_readDocument_67 fl_RX13_202 (by decide) rfl ki_6 ?_
            obtain ⟨S70, e70, hq⟩ := md_c_e hq
            refine q_cV (Y := mX13_fail) (As := [.int (S44.1 6)]) (st := []) (b := m) (ci := 15) vc_X13_fail dX13_readDocument_70 ml_RX13_216 rfl md_obj rfl (Nat.le_of_ble_eq_true rfl) rfl (Nat.le_of_ble_eq_true rfl) (ro_fail (d := d + 4) hG hm e70) (fun v h1 hq1 => ?_) (fun E h1 hq1 => md_nV hq1)
            obtain ⟨hv, rfl⟩ := hq1
            cases hv
            show mv_rq l G mX13_readDocument (d + 6) 73 [some (.ref m), some (.int x1), some (.int 0)] [] (md_H G B m S70) _
            refine q_goto (tgt := 24) dX13_readDocument_73 (by decide) ?_
            refine mv_weak (A := [some (.ref m), some (.int x1), some (.int 0)]) (by repeat' constructor) ?_
            exact ro_readDocument_l24 hG hm n hq
          ·
            have hq := md_pos c55 hq
            refine q_aload_n dX13_readDocument_58 rfl ?_
            refine r_geti 21 dX13_readDocument_59 fl_RX13_235 (by decide) rfl ki_21 ?_
            refine q_if_le (tgt := 24) dX13_readDocument_62 (by decide) (fun c62 => ?_) (fun c62 => ?_)
            ·
              have hq := md_pos c62 hq
              refine mv_weak (A := [some (.ref m), some (.int x1), some (.int 0)]) (by repeat' constructor) ?_
              exact ro_readDocument_l24 hG hm n hq
            ·
              have hq := md_neg c62 hq
              refine q_aload_n dX13_readDocument_65 rfl ?_
              refine q_aload_n dX13_readDocument_66 rfl ?_
              refine r_geti 6 dX13_readDocument_67 fl_RX13_202 (by decide) rfl ki_6 ?_
              obtain ⟨S70, e70, hq⟩ := md_c_e hq
              refine q_cV (Y := mX13_fail) (As := [.int (S44.1 6)]) (st := []) (b := m) (ci := 15) vc_X13_fail dX13_readDocument_70 ml_RX13_216 rfl md_obj rfl (Nat.le_of_ble_eq_true rfl) rfl (Nat.le_of_ble_eq_true rfl) (ro_fail (d := d + 4) hG hm e70) (fun v h1 hq1 => ?_) (fun E h1 hq1 => md_nV hq1)
              obtain ⟨hv, rfl⟩ := hq1
              cases hv
              show mv_rq l G mX13_readDocument (d + 6) 73 [some (.ref m), some (.int x1), some (.int 0)] [] (md_H G B m S70) _
              refine q_goto (tgt := 24) dX13_readDocument_73 (by decide) ?_
              refine mv_weak (A := [some (.ref m), some (.int x1), some (.int 0)]) (by repeat' constructor) ?_
              exact ro_readDocument_l24 hG hm n hq
def mo_readDocument (N : Nat) (S : md_S) : Option md_S :=
  md_l (md_p S 10 0) fun S2 =>
  md_l (md_p S2 21 0) fun S7 =>
  md_l (md_p S7 22 (-1)) fun S12 =>
  md_l (md_p S12 23 0) fun S17 =>
  mo_readDocument_l24 N N 0 1 S17
theorem ro_readDocument {l : Launch} {G : mv_G} {B : mv_H} {m N d : Nat} (hG : mv_ok G) (hm : G.2.2.1 ≤ m) {S : md_S} {q : md_S} (hq : mo_readDocument N S = some q) : mv_rq l G mX13_readDocument (d + 6) 0 (mv_in [.ref m] 3) [] (md_H G B m S) (md_V G B m q) := by
  unfold mo_readDocument at hq
  show mv_rq l G mX13_readDocument (d + 6) 0 [some (.ref m), none, none] [] (md_H G B m S) _
  refine q_aload_n dX13_readDocument_0 rfl ?_
  refine q_iconst (v := 0) dX13_readDocument_1 (by decide) ?_
  refine r_puti 10 .int dX13_readDocument_2 fl_RX13_238 (by decide) rfl ki_10 rfl kp_10 rfl rfl hm (fun S2 e2 => ?_)
  have hq := md_l_e e2 hq
  clear e2
  show mv_rq l G mX13_readDocument (d + 6) 5 [some (.ref m), none, none] [] (md_H G B m S2) _
  refine q_aload_n dX13_readDocument_5 rfl ?_
  refine q_iconst (v := 0) dX13_readDocument_6 (by decide) ?_
  refine r_puti 21 .int dX13_readDocument_7 fl_RX13_235 (by decide) rfl ki_21 rfl kp_21 rfl rfl hm (fun S7 e7 => ?_)
  have hq := md_l_e e7 hq
  clear e7
  show mv_rq l G mX13_readDocument (d + 6) 10 [some (.ref m), none, none] [] (md_H G B m S7) _
  refine q_aload_n dX13_readDocument_10 rfl ?_
  refine q_iconst (v := (-1)) dX13_readDocument_11 (by decide) ?_
  refine r_puti 22 .int dX13_readDocument_12 fl_RX13_245 (by decide) rfl ki_22 rfl kp_22 rfl rfl hm (fun S12 e12 => ?_)
  have hq := md_l_e e12 hq
  clear e12
  show mv_rq l G mX13_readDocument (d + 6) 15 [some (.ref m), none, none] [] (md_H G B m S12) _
  refine q_aload_n dX13_readDocument_15 rfl ?_
  refine q_iconst (v := 0) dX13_readDocument_16 (by decide) ?_
  refine r_puti 23 .int dX13_readDocument_17 fl_RX13_248 (by decide) rfl ki_23 rfl kp_23 rfl rfl hm (fun S17 e17 => ?_)
  have hq := md_l_e e17 hq
  clear e17
  show mv_rq l G mX13_readDocument (d + 6) 20 [some (.ref m), none, none] [] (md_H G B m S17) _
  refine q_iconst (v := 0) dX13_readDocument_20 (by decide) ?_
  refine q_istore_n dX13_readDocument_21 (Nat.le_of_ble_eq_true rfl) rfl ?_
  show mv_rq l G mX13_readDocument (d + 6) 22 [some (.ref m), some (.int 0), none] [] (md_H G B m S17) _
  refine q_iconst (v := 1) dX13_readDocument_22 (by decide) ?_
  refine q_istore_n dX13_readDocument_23 (Nat.le_of_ble_eq_true rfl) rfl ?_
  show mv_rq l G mX13_readDocument (d + 6) 24 [some (.ref m), some (.int 0), some (.int 1)] [] (md_H G B m S17) _
  refine mv_weak (A := [some (.ref m), some (.int 0), some (.int 1)]) (by repeat' constructor) ?_
  exact ro_readDocument_l24 hG hm N hq
def mo_document_j130 (N : Nat) (S : md_S) : Option (Int32 × md_S) :=
  some (0, S)
theorem ro_document_j130 {l : Launch} {G : mv_G} {B : mv_H} {m N d : Nat} (hG : mv_ok G) (hm : G.2.2.1 ≤ m) {S : md_S} {q : (Int32 × md_S)} (hq : mo_document_j130 N  S = some q) : mv_rq l G mX13_document (d + 7) 130 [none, none, none] [] (md_H G B m S) (md_Q G B m q) := by
  unfold mo_document_j130 at hq
  refine q_iconst (v := 0) dX13_document_130 (by decide) ?_
  obtain rfl := Option.some.inj hq
  exact q_iret (ty := .int) dX13_document_131 rfl rfl ⟨rfl, rfl⟩
def mo_document_l59 (N : Nat) : Nat → Int32 → Int32 → md_S → Option (Int32 × md_S)
  | 0, _, _, _ => none
  | n + 1, x1, x2, S =>
    if x1 ≤ x2 then
      md_l (md_p S 9 x1) fun S84 =>
      md_l (md_p S84 8 1) fun S89 =>
      md_l (md_p S89 82 0) fun S94 =>
      some ((S94.1 10), S94)
    else
      if md_in x2 160 then
      if md_in x2 160 then
      md_l (md_w S 11 x2.toNatClampNeg (vp_nar .byte (S.2 4 x2.toNatClampNeg))) fun S75 =>
      mo_document_l59 N n x1 (x2 + 1) S75
      else none
      else none
theorem ro_document_l59 {l : Launch} {G : mv_G} {B : mv_H} {m N d : Nat} (hG : mv_ok G) (hm : G.2.2.1 ≤ m) : ∀ n : Nat, ∀ {x1 : Int32} {x2 : Int32} {S : md_S} {q : (Int32 × md_S)}, mo_document_l59 N n x1 x2 S = some q → mv_rq l G mX13_document (d + 7) 59 [some (.ref m), some (.int x1), some (.int x2)] [] (md_H G B m S) (md_Q G B m q)
  | 0, _, _, _, _, hq => nomatch hq
  | n + 1, x1, x2, S, q, hq => by
    rw [mo_document_l59] at hq
    refine q_iload_n dX13_document_59 rfl ?_
    refine q_iload_n dX13_document_60 rfl ?_
    refine q_icmp_ge (tgt := 82) dX13_document_61 (by decide) (fun c61 => ?_) (fun c61 => ?_)
    ·
      have hq := md_pos c61 hq
      refine q_aload_n dX13_document_82 rfl ?_
      refine q_iload_n dX13_document_83 rfl ?_
      refine r_puti 9 .int dX13_document_84 fl_RX13_297 (by decide) rfl ki_9 rfl kp_9 rfl rfl hm (fun S84 e84 => ?_)
      have hq := md_l_e e84 hq
      clear e84
      show mv_rq l G mX13_document (d + 7) 87 [some (.ref m), some (.int x1), some (.int x2)] [] (md_H G B m S84) _
      refine q_aload_n dX13_document_87 rfl ?_
      refine q_iconst (v := 1) dX13_document_88 (by decide) ?_
      refine r_puti 8 .boolean dX13_document_89 fl_RX13_300 (by decide) rfl ki_8 rfl kp_8 rfl rfl hm (fun S89 e89 => ?_)
      have hq := md_l_e e89 hq
      clear e89
      show mv_rq l G mX13_document (d + 7) 92 [some (.ref m), some (.int x1), some (.int x2)] [] (md_H G B m S89) _
      refine q_aload_n dX13_document_92 rfl ?_
      refine q_iconst (v := 0) dX13_document_93 (by decide) ?_
      refine r_puti 82 .int dX13_document_94 fl_RX13_304 (by decide) rfl ki_82 rfl kp_82 rfl rfl hm (fun S94 e94 => ?_)
      have hq := md_l_e e94 hq
      clear e94
      show mv_rq l G mX13_document (d + 7) 97 [some (.ref m), some (.int x1), some (.int x2)] [] (md_H G B m S94) _
      refine q_aload_n dX13_document_97 rfl ?_
      refine r_geti 10 dX13_document_98 fl_RX13_238 (by decide) rfl ki_10 ?_
      obtain rfl := Option.some.inj hq
      exact q_iret (ty := .int) dX13_document_101 rfl rfl ⟨rfl, rfl⟩
    ·
      have hq := md_neg c61 hq
      refine q_aload_n dX13_document_64 rfl ?_
      refine r_geta 11 dX13_document_65 fl_RX13_20 (by decide) rfl kk_11 ?_
      refine q_iload_n dX13_document_68 rfl ?_
      refine q_aload_n dX13_document_69 rfl ?_
      refine r_geta 4 dX13_document_70 fl_RX13_17 (by decide) rfl kk_4 ?_
      refine q_iload_n dX13_document_73 rfl ?_
      obtain ⟨g74, hq⟩ := md_g hq
      refine r_bald hG 4 dX13_document_74 kk_4 g74 ?_
      obtain ⟨g75, hq⟩ := md_g hq
      refine r_bast hG hm 11 dX13_document_75 kk_11 g75 (fun S75 e75 => ?_)
      have hq := md_l_e e75 hq
      clear e75
      show mv_rq l G mX13_document (d + 7) 76 [some (.ref m), some (.int x1), some (.int x2)] [] (md_H G B m S75) _
      refine q_iinc dX13_document_76 rfl rfl ?_
      show mv_rq l G mX13_document (d + 7) 79 [some (.ref m), some (.int x1), some (.int (x2 + 1))] [] (md_H G B m S75) _
      refine q_goto (tgt := 59) dX13_document_79 (by decide) ?_
      refine mv_weak (A := [some (.ref m), some (.int x1), some (.int (x2 + 1))]) (by repeat' constructor) ?_
      exact ro_document_l59 hG hm n hq
def mo_document_j47 (N : Nat) (x1 : Int32) (y0 : Int32) (S : md_S) : Option (Int32 × md_S) :=
  md_l (md_p S 0 y0) fun S47 =>
  md_b (mo_good S47) fun v51 S51 =>
  if v51 = 0 then
    md_c (mo_take N 11 (S51.1 9) S51) fun S111 =>
    md_l (md_p S111 10 0) fun S116 =>
    if (S116.1 8) = 0 then
      mo_document_j130 N  S116
    else
      md_c (mo_readDocument N S116) fun S127 =>
      mo_document_j130 N  S127
  else
    mo_document_l59 N N x1 0 S51
theorem ro_document_j47 {l : Launch} {G : mv_G} {B : mv_H} {m N d : Nat} (hG : mv_ok G) (hm : G.2.2.1 ≤ m) {x1 : Int32} {y0 : Int32} {S : md_S} {q : (Int32 × md_S)} (hq : mo_document_j47 N x1 y0 S = some q) : mv_rq l G mX13_document (d + 7) 47 [some (.ref m), some (.int x1), none] [.int y0, .ref m] (md_H G B m S) (md_Q G B m q) := by
  unfold mo_document_j47 at hq
  refine r_puti 0 .int dX13_document_47 fl_RX13_193 (by decide) rfl ki_0 rfl kp_0 rfl rfl hm (fun S47 e47 => ?_)
  have hq := md_l_e e47 hq
  clear e47
  show mv_rq l G mX13_document (d + 7) 50 [some (.ref m), some (.int x1), none] [] (md_H G B m S47) _
  refine q_aload_n dX13_document_50 rfl ?_
  obtain ⟨v51, S51, e51, hq⟩ := md_b_e hq
  refine q_cV (Y := mX13_good) (As := []) (st := []) (b := m) (ci := 15) vc_X13_good dX13_document_51 ml_RX13_208 rfl md_obj rfl (Nat.le_of_ble_eq_true rfl) rfl (Nat.le_of_ble_eq_true rfl) (ro_good (d := d + 6) hG hm e51) (fun v h1 hq1 => ?_) (fun E h1 hq1 => md_nQ hq1)
  obtain ⟨hv, rfl⟩ := hq1
  cases hv
  show mv_rq l G mX13_document (d + 7) 54 [some (.ref m), some (.int x1), none] [.int v51] (md_H G B m S51) _
  refine q_if_eq (tgt := 102) dX13_document_54 (by decide) (fun c54 => ?_) (fun c54 => ?_)
  ·
    have hq := md_pos c54 hq
    refine q_aload_n dX13_document_102 rfl ?_
    refine q_aload_n dX13_document_103 rfl ?_
    refine r_geta 11 dX13_document_104 fl_RX13_20 (by decide) rfl kk_11 ?_
    refine q_aload_n dX13_document_107 rfl ?_
    refine r_geti 9 dX13_document_108 fl_RX13_297 (by decide) rfl ki_9 ?_
    obtain ⟨S111, e111, hq⟩ := md_c_e hq
    refine q_cV (Y := mX13_take) (As := [.ref (m + md_ad 11), .int (S51.1 9)]) (st := []) (b := m) (ci := 15) vc_X13_take dX13_document_111 ml_RX13_290 rfl md_obj rfl (Nat.le_of_ble_eq_true rfl) rfl (Nat.le_of_ble_eq_true rfl) (ro_take (d := d + 6) hG hm e111) (fun v h1 hq1 => ?_) (fun E h1 hq1 => md_nV hq1)
    obtain ⟨hv, rfl⟩ := hq1
    cases hv
    show mv_rq l G mX13_document (d + 7) 114 [some (.ref m), some (.int x1), none] [] (md_H G B m S111) _
    refine q_aload_n dX13_document_114 rfl ?_
    refine q_iconst (v := 0) dX13_document_115 (by decide) ?_
    refine r_puti 10 .int dX13_document_116 fl_RX13_238 (by decide) rfl ki_10 rfl kp_10 rfl rfl hm (fun S116 e116 => ?_)
    have hq := md_l_e e116 hq
    clear e116
    show mv_rq l G mX13_document (d + 7) 119 [some (.ref m), some (.int x1), none] [] (md_H G B m S116) _
    refine q_aload_n dX13_document_119 rfl ?_
    refine r_geti 8 dX13_document_120 fl_RX13_300 (by decide) rfl ki_8 ?_
    refine q_if_eq (tgt := 130) dX13_document_123 (by decide) (fun c123 => ?_) (fun c123 => ?_)
    ·
      have hq := md_pos c123 hq
      refine mv_weak (A := [none, none, none]) (by repeat' constructor) ?_
      exact ro_document_j130 hG hm hq
    ·
      have hq := md_neg c123 hq
      refine q_aload_n dX13_document_126 rfl ?_
      obtain ⟨S127, e127, hq⟩ := md_c_e hq
      refine q_cV (Y := mX13_readDocument) (As := []) (st := []) (b := m) (ci := 15) vc_X13_readDocument dX13_document_127 ml_RX13_294 rfl md_obj rfl (Nat.le_of_ble_eq_true rfl) rfl (Nat.le_of_ble_eq_true rfl) (ro_readDocument (d := d) hG hm e127) (fun v h1 hq1 => ?_) (fun E h1 hq1 => md_nV hq1)
      obtain ⟨hv, rfl⟩ := hq1
      cases hv
      show mv_rq l G mX13_document (d + 7) 130 [some (.ref m), some (.int x1), none] [] (md_H G B m S127) _
      refine mv_weak (A := [none, none, none]) (by repeat' constructor) ?_
      exact ro_document_j130 hG hm hq
  ·
    have hq := md_neg c54 hq
    refine q_iconst (v := 0) dX13_document_57 (by decide) ?_
    refine q_istore_n dX13_document_58 (Nat.le_of_ble_eq_true rfl) rfl ?_
    show mv_rq l G mX13_document (d + 7) 59 [some (.ref m), some (.int x1), some (.int 0)] [] (md_H G B m S51) _
    refine mv_weak (A := [some (.ref m), some (.int x1), some (.int 0)]) (by repeat' constructor) ?_
    exact ro_document_l59 hG hm N hq
def mo_document (N : Nat) (S : md_S) : Option (Int32 × md_S) :=
  md_c (mo_take N 1 (S.1 2) S) fun S9 =>
  md_l (md_p S9 2 0) fun S19 =>
  md_c (mo_readDocument N S19) fun S23 =>
  md_l (md_p S23 3 (S23.1 7)) fun S31 =>
  md_b (mo_good S31) fun v36 S36 =>
  if v36 = 0 then
    mo_document_j47 N (S9.1 2) 1 S36
  else
    mo_document_j47 N (S9.1 2) 0 S36
theorem ro_document {l : Launch} {G : mv_G} {B : mv_H} {m N d : Nat} (hG : mv_ok G) (hm : G.2.2.1 ≤ m) {S : md_S} {q : (Int32 × md_S)} (hq : mo_document N S = some q) : mv_rq l G mX13_document (d + 7) 0 (mv_in [.ref m] 3) [] (md_H G B m S) (md_Q G B m q) := by
  unfold mo_document at hq
  show mv_rq l G mX13_document (d + 7) 0 [some (.ref m), none, none] [] (md_H G B m S) _
  refine q_aload_n dX13_document_0 rfl ?_
  refine q_aload_n dX13_document_1 rfl ?_
  refine r_geta 1 dX13_document_2 fl_RX13_7 (by decide) rfl kk_1 ?_
  refine q_aload_n dX13_document_5 rfl ?_
  refine r_geti 2 dX13_document_6 fl_RX13_196 (by decide) rfl ki_2 ?_
  obtain ⟨S9, e9, hq⟩ := md_c_e hq
  refine q_cV (Y := mX13_take) (As := [.ref (m + md_ad 1), .int (S.1 2)]) (st := []) (b := m) (ci := 15) vc_X13_take dX13_document_9 ml_RX13_290 rfl md_obj rfl (Nat.le_of_ble_eq_true rfl) rfl (Nat.le_of_ble_eq_true rfl) (ro_take (d := d + 6) hG hm e9) (fun v h1 hq1 => ?_) (fun E h1 hq1 => md_nV hq1)
  obtain ⟨hv, rfl⟩ := hq1
  cases hv
  show mv_rq l G mX13_document (d + 7) 12 [some (.ref m), none, none] [] (md_H G B m S9) _
  refine q_aload_n dX13_document_12 rfl ?_
  refine r_geti 2 dX13_document_13 fl_RX13_196 (by decide) rfl ki_2 ?_
  refine q_istore_n dX13_document_16 (Nat.le_of_ble_eq_true rfl) rfl ?_
  show mv_rq l G mX13_document (d + 7) 17 [some (.ref m), some (.int (S9.1 2)), none] [] (md_H G B m S9) _
  refine q_aload_n dX13_document_17 rfl ?_
  refine q_iconst (v := 0) dX13_document_18 (by decide) ?_
  refine r_puti 2 .int dX13_document_19 fl_RX13_196 (by decide) rfl ki_2 rfl kp_2 rfl rfl hm (fun S19 e19 => ?_)
  have hq := md_l_e e19 hq
  clear e19
  show mv_rq l G mX13_document (d + 7) 22 [some (.ref m), some (.int (S9.1 2)), none] [] (md_H G B m S19) _
  refine q_aload_n dX13_document_22 rfl ?_
  obtain ⟨S23, e23, hq⟩ := md_c_e hq
  refine q_cV (Y := mX13_readDocument) (As := []) (st := []) (b := m) (ci := 15) vc_X13_readDocument dX13_document_23 ml_RX13_294 rfl md_obj rfl (Nat.le_of_ble_eq_true rfl) rfl (Nat.le_of_ble_eq_true rfl) (ro_readDocument (d := d) hG hm e23) (fun v h1 hq1 => ?_) (fun E h1 hq1 => md_nV hq1)
  obtain ⟨hv, rfl⟩ := hq1
  cases hv
  show mv_rq l G mX13_document (d + 7) 26 [some (.ref m), some (.int (S9.1 2)), none] [] (md_H G B m S23) _
  refine q_aload_n dX13_document_26 rfl ?_
  refine q_aload_n dX13_document_27 rfl ?_
  refine r_geti 7 dX13_document_28 fl_RX13_205 (by decide) rfl ki_7 ?_
  refine r_puti 3 .int dX13_document_31 fl_RX13_13 (by decide) rfl ki_3 rfl kp_3 rfl rfl hm (fun S31 e31 => ?_)
  have hq := md_l_e e31 hq
  clear e31
  show mv_rq l G mX13_document (d + 7) 34 [some (.ref m), some (.int (S9.1 2)), none] [] (md_H G B m S31) _
  refine q_aload_n dX13_document_34 rfl ?_
  refine q_aload_n dX13_document_35 rfl ?_
  obtain ⟨v36, S36, e36, hq⟩ := md_b_e hq
  refine q_cV (Y := mX13_good) (As := []) (st := [.ref m]) (b := m) (ci := 15) vc_X13_good dX13_document_36 ml_RX13_208 rfl md_obj rfl (Nat.le_of_ble_eq_true rfl) rfl (Nat.le_of_ble_eq_true rfl) (ro_good (d := d + 6) hG hm e36) (fun v h1 hq1 => ?_) (fun E h1 hq1 => md_nQ hq1)
  obtain ⟨hv, rfl⟩ := hq1
  cases hv
  show mv_rq l G mX13_document (d + 7) 39 [some (.ref m), some (.int (S9.1 2)), none] [.int v36, .ref m] (md_H G B m S36) _
  refine q_if_eq (tgt := 46) dX13_document_39 (by decide) (fun c39 => ?_) (fun c39 => ?_)
  ·
    have hq := md_pos c39 hq
    refine q_iconst (v := 1) dX13_document_46 (by decide) ?_
    refine mv_weak (A := [some (.ref m), some (.int (S9.1 2)), none]) (by repeat' constructor) ?_
    exact ro_document_j47 hG hm hq
  ·
    have hq := md_neg c39 hq
    refine q_iconst (v := 0) dX13_document_42 (by decide) ?_
    refine q_goto (tgt := 47) dX13_document_43 (by decide) ?_
    refine mv_weak (A := [some (.ref m), some (.int (S9.1 2)), none]) (by repeat' constructor) ?_
    exact ro_document_j47 hG hm hq
def mo_push (x1 : Int32) (x2 : Int32) (x3 : Int32) (S : md_S) : Option md_S :=
  if md_in (S.1 55) 400 then
  md_l (md_w S 56 (S.1 55).toNatClampNeg x1) fun S9 =>
  if md_in (S9.1 55) 400 then
  md_l (md_w S9 57 (S9.1 55).toNatClampNeg x2) fun S19 =>
  if md_in (S19.1 55) 400 then
  md_l (md_w S19 58 (S19.1 55).toNatClampNeg x3) fun S29 =>
  md_l (md_p S29 55 ((S29.1 55) + 1)) fun S37 =>
  some S37
  else none
  else none
  else none
theorem ro_push {l : Launch} {G : mv_G} {B : mv_H} {m d : Nat} (hG : mv_ok G) (hm : G.2.2.1 ≤ m) {x1 : Int32} {x2 : Int32} {x3 : Int32} {S : md_S} {q : md_S} (hq : mo_push x1 x2 x3 S = some q) : mv_rq l G mX13_push d 0 (mv_in [.ref m, .int x1, .int x2, .int x3] 4) [] (md_H G B m S) (md_V G B m q) := by
  unfold mo_push at hq
  show mv_rq l G mX13_push d 0 [some (.ref m), some (.int x1), some (.int x2), some (.int x3)] [] (md_H G B m S) _
  refine q_aload_n dX13_push_0 rfl ?_
  refine r_geta 56 dX13_push_1 fl_RX13_121 (by decide) rfl kk_56 ?_
  refine q_aload_n dX13_push_4 rfl ?_
  refine r_geti 55 dX13_push_5 fl_RX13_307 (by decide) rfl ki_55 ?_
  refine q_iload_n dX13_push_8 rfl ?_
  obtain ⟨g9, hq⟩ := md_g hq
  refine r_iast hG hm 56 dX13_push_9 kk_56 g9 (fun S9 e9 => ?_)
  have hq := md_l_e e9 hq
  clear e9
  show mv_rq l G mX13_push d 10 [some (.ref m), some (.int x1), some (.int x2), some (.int x3)] [] (md_H G B m S9) _
  refine q_aload_n dX13_push_10 rfl ?_
  refine r_geta 57 dX13_push_11 fl_RX13_124 (by decide) rfl kk_57 ?_
  refine q_aload_n dX13_push_14 rfl ?_
  refine r_geti 55 dX13_push_15 fl_RX13_307 (by decide) rfl ki_55 ?_
  refine q_iload_n dX13_push_18 rfl ?_
  obtain ⟨g19, hq⟩ := md_g hq
  refine r_iast hG hm 57 dX13_push_19 kk_57 g19 (fun S19 e19 => ?_)
  have hq := md_l_e e19 hq
  clear e19
  show mv_rq l G mX13_push d 20 [some (.ref m), some (.int x1), some (.int x2), some (.int x3)] [] (md_H G B m S19) _
  refine q_aload_n dX13_push_20 rfl ?_
  refine r_geta 58 dX13_push_21 fl_RX13_127 (by decide) rfl kk_58 ?_
  refine q_aload_n dX13_push_24 rfl ?_
  refine r_geti 55 dX13_push_25 fl_RX13_307 (by decide) rfl ki_55 ?_
  refine q_iload_n dX13_push_28 rfl ?_
  obtain ⟨g29, hq⟩ := md_g hq
  refine r_iast hG hm 58 dX13_push_29 kk_58 g29 (fun S29 e29 => ?_)
  have hq := md_l_e e29 hq
  clear e29
  show mv_rq l G mX13_push d 30 [some (.ref m), some (.int x1), some (.int x2), some (.int x3)] [] (md_H G B m S29) _
  refine q_aload_n dX13_push_30 rfl ?_
  refine q_dup dX13_push_31 rfl ?_
  refine r_geti 55 dX13_push_32 fl_RX13_307 (by decide) rfl ki_55 ?_
  refine q_iconst (v := 1) dX13_push_35 (by decide) ?_
  refine q_iadd dX13_push_36 ?_
  refine r_puti 55 .int dX13_push_37 fl_RX13_307 (by decide) rfl ki_55 rfl kp_55 rfl rfl hm (fun S37 e37 => ?_)
  have hq := md_l_e e37 hq
  clear e37
  show mv_rq l G mX13_push d 40 [some (.ref m), some (.int x1), some (.int x2), some (.int x3)] [] (md_H G B m S37) _
  obtain rfl := Option.some.inj hq
  exact q_vret dX13_push_40 rfl ⟨rfl, rfl⟩
def mo_newPath (x1 : Int32) (S : md_S) : Option (Int32 × md_S) :=
  if md_in (S.1 26) 100 then
  md_l (md_w S 33 (S.1 26).toNatClampNeg (S.1 6)) fun S12 =>
  if md_in (S12.1 26) 100 then
  md_l (md_w S12 34 (S12.1 26).toNatClampNeg (-1)) fun S22 =>
  if md_in (S22.1 26) 100 then
  md_l (md_w S22 35 (S22.1 26).toNatClampNeg (-1)) fun S32 =>
  if md_in (S32.1 26) 100 then
  md_l (md_w S32 36 (S32.1 26).toNatClampNeg (vp_nar .boolean x1)) fun S42 =>
  md_l (md_p S42 6 ((S42.1 6) + 1)) fun S50 =>
  md_l (md_p S50 26 ((S50.1 26) + 1)) fun S60 =>
  some (((S60.1 26) - 1), S60)
  else none
  else none
  else none
  else none
theorem ro_newPath {l : Launch} {G : mv_G} {B : mv_H} {m d : Nat} (hG : mv_ok G) (hm : G.2.2.1 ≤ m) {x1 : Int32} {S : md_S} {q : (Int32 × md_S)} (hq : mo_newPath x1 S = some q) : mv_rq l G mX13_newPath d 0 (mv_in [.ref m, .int x1] 2) [] (md_H G B m S) (md_Q G B m q) := by
  unfold mo_newPath at hq
  show mv_rq l G mX13_newPath d 0 [some (.ref m), some (.int x1)] [] (md_H G B m S) _
  refine q_aload_n dX13_newPath_0 rfl ?_
  refine r_geta 33 dX13_newPath_1 fl_RX13_54 (by decide) rfl kk_33 ?_
  refine q_aload_n dX13_newPath_4 rfl ?_
  refine r_geti 26 dX13_newPath_5 fl_RX13_310 (by decide) rfl ki_26 ?_
  refine q_aload_n dX13_newPath_8 rfl ?_
  refine r_geti 6 dX13_newPath_9 fl_RX13_202 (by decide) rfl ki_6 ?_
  obtain ⟨g12, hq⟩ := md_g hq
  refine r_iast hG hm 33 dX13_newPath_12 kk_33 g12 (fun S12 e12 => ?_)
  have hq := md_l_e e12 hq
  clear e12
  show mv_rq l G mX13_newPath d 13 [some (.ref m), some (.int x1)] [] (md_H G B m S12) _
  refine q_aload_n dX13_newPath_13 rfl ?_
  refine r_geta 34 dX13_newPath_14 fl_RX13_57 (by decide) rfl kk_34 ?_
  refine q_aload_n dX13_newPath_17 rfl ?_
  refine r_geti 26 dX13_newPath_18 fl_RX13_310 (by decide) rfl ki_26 ?_
  refine q_iconst (v := (-1)) dX13_newPath_21 (by decide) ?_
  obtain ⟨g22, hq⟩ := md_g hq
  refine r_iast hG hm 34 dX13_newPath_22 kk_34 g22 (fun S22 e22 => ?_)
  have hq := md_l_e e22 hq
  clear e22
  show mv_rq l G mX13_newPath d 23 [some (.ref m), some (.int x1)] [] (md_H G B m S22) _
  refine q_aload_n dX13_newPath_23 rfl ?_
  refine r_geta 35 dX13_newPath_24 fl_RX13_60 (by decide) rfl kk_35 ?_
  refine q_aload_n dX13_newPath_27 rfl ?_
  refine r_geti 26 dX13_newPath_28 fl_RX13_310 (by decide) rfl ki_26 ?_
  refine q_iconst (v := (-1)) dX13_newPath_31 (by decide) ?_
  obtain ⟨g32, hq⟩ := md_g hq
  refine r_iast hG hm 35 dX13_newPath_32 kk_35 g32 (fun S32 e32 => ?_)
  have hq := md_l_e e32 hq
  clear e32
  show mv_rq l G mX13_newPath d 33 [some (.ref m), some (.int x1)] [] (md_H G B m S32) _
  refine q_aload_n dX13_newPath_33 rfl ?_
  refine r_geta 36 dX13_newPath_34 fl_RX13_63 (by decide) rfl kk_36 ?_
  refine q_aload_n dX13_newPath_37 rfl ?_
  refine r_geti 26 dX13_newPath_38 fl_RX13_310 (by decide) rfl ki_26 ?_
  refine q_iload_n dX13_newPath_41 rfl ?_
  obtain ⟨g42, hq⟩ := md_g hq
  refine r_zast hG hm 36 dX13_newPath_42 kk_36 g42 (fun S42 e42 => ?_)
  have hq := md_l_e e42 hq
  clear e42
  show mv_rq l G mX13_newPath d 43 [some (.ref m), some (.int x1)] [] (md_H G B m S42) _
  refine q_aload_n dX13_newPath_43 rfl ?_
  refine q_dup dX13_newPath_44 rfl ?_
  refine r_geti 6 dX13_newPath_45 fl_RX13_202 (by decide) rfl ki_6 ?_
  refine q_iconst (v := 1) dX13_newPath_48 (by decide) ?_
  refine q_iadd dX13_newPath_49 ?_
  refine r_puti 6 .int dX13_newPath_50 fl_RX13_202 (by decide) rfl ki_6 rfl kp_6 rfl rfl hm (fun S50 e50 => ?_)
  have hq := md_l_e e50 hq
  clear e50
  show mv_rq l G mX13_newPath d 53 [some (.ref m), some (.int x1)] [] (md_H G B m S50) _
  refine q_aload_n dX13_newPath_53 rfl ?_
  refine q_dup dX13_newPath_54 rfl ?_
  refine r_geti 26 dX13_newPath_55 fl_RX13_310 (by decide) rfl ki_26 ?_
  refine q_iconst (v := 1) dX13_newPath_58 (by decide) ?_
  refine q_iadd dX13_newPath_59 ?_
  refine r_puti 26 .int dX13_newPath_60 fl_RX13_310 (by decide) rfl ki_26 rfl kp_26 rfl rfl hm (fun S60 e60 => ?_)
  have hq := md_l_e e60 hq
  clear e60
  show mv_rq l G mX13_newPath d 63 [some (.ref m), some (.int x1)] [] (md_H G B m S60) _
  refine q_aload_n dX13_newPath_63 rfl ?_
  refine r_geti 26 dX13_newPath_64 fl_RX13_310 (by decide) rfl ki_26 ?_
  refine q_iconst (v := 1) dX13_newPath_67 (by decide) ?_
  refine q_isub dX13_newPath_68 ?_
  obtain rfl := Option.some.inj hq
  exact q_iret (ty := .int) dX13_newPath_69 rfl rfl ⟨rfl, rfl⟩
