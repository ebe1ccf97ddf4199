theorem dX13_isLess_0 : decode cX13_isLess 0 = .ok (.aload_n 0, 1) := by decide +kernel
theorem dX13_isLess_1 : decode cX13_isLess 1 = .ok (.getfield 172, 3) := by decide +kernel
theorem dX13_isLess_4 : decode cX13_isLess 4 = .ok (.iload_n 1, 1) := by decide +kernel
theorem dX13_isLess_5 : decode cX13_isLess 5 = .ok (.iaload, 1) := by decide +kernel
theorem dX13_isLess_6 : decode cX13_isLess 6 = .ok (.istore_n 3, 1) := by decide +kernel
theorem dX13_isLess_7 : decode cX13_isLess 7 = .ok (.iload_n 3, 1) := by decide +kernel
theorem dX13_isLess_8 : decode cX13_isLess 8 = .ok (.aload_n 0, 1) := by decide +kernel
theorem dX13_isLess_9 : decode cX13_isLess 9 = .ok (.getfield 172, 3) := by decide +kernel
theorem dX13_isLess_12 : decode cX13_isLess 12 = .ok (.iload_n 2, 1) := by decide +kernel
theorem dX13_isLess_13 : decode cX13_isLess 13 = .ok (.iaload, 1) := by decide +kernel
theorem dX13_isLess_14 : decode cX13_isLess 14 = .ok (.if_icmp .eq 5, 3) := by decide +kernel
theorem dX13_isLess_17 : decode cX13_isLess 17 = .ok (.iconst 0, 1) := by decide +kernel
theorem dX13_isLess_18 : decode cX13_isLess 18 = .ok (.ireturn, 1) := by decide +kernel
theorem dX13_isLess_19 : decode cX13_isLess 19 = .ok (.iload_n 3, 1) := by decide +kernel
theorem dX13_isLess_20 : decode cX13_isLess 20 = .ok (.iconst 3, 1) := by decide +kernel
theorem dX13_isLess_21 : decode cX13_isLess 21 = .ok (.if_icmp .ne 26, 3) := by decide +kernel
theorem dX13_isLess_24 : decode cX13_isLess 24 = .ok (.aload_n 0, 1) := by decide +kernel
theorem dX13_isLess_25 : decode cX13_isLess 25 = .ok (.getfield 175, 3) := by decide +kernel
theorem dX13_isLess_28 : decode cX13_isLess 28 = .ok (.iload_n 1, 1) := by decide +kernel
theorem dX13_isLess_29 : decode cX13_isLess 29 = .ok (.iaload, 1) := by decide +kernel
theorem dX13_isLess_30 : decode cX13_isLess 30 = .ok (.aload_n 0, 1) := by decide +kernel
theorem dX13_isLess_31 : decode cX13_isLess 31 = .ok (.getfield 175, 3) := by decide +kernel
theorem dX13_isLess_34 : decode cX13_isLess 34 = .ok (.iload_n 2, 1) := by decide +kernel
theorem dX13_isLess_35 : decode cX13_isLess 35 = .ok (.iaload, 1) := by decide +kernel
theorem dX13_isLess_36 : decode cX13_isLess 36 = .ok (.if_icmp .ge 7, 3) := by decide +kernel
theorem dX13_isLess_39 : decode cX13_isLess 39 = .ok (.iconst 1, 1) := by decide +kernel
theorem dX13_isLess_40 : decode cX13_isLess 40 = .ok (.goto 48, 3) := by decide +kernel
theorem dX13_isLess_43 : decode cX13_isLess 43 = .ok (.iconst 0, 1) := by decide +kernel
theorem dX13_isLess_44 : decode cX13_isLess 44 = .ok (.goto 44, 3) := by decide +kernel
theorem dX13_isLess_47 : decode cX13_isLess 47 = .ok (.iload_n 3, 1) := by decide +kernel
theorem dX13_isLess_48 : decode cX13_isLess 48 = .ok (.iconst 4, 1) := by decide +kernel
theorem dX13_isLess_49 : decode cX13_isLess 49 = .ok (.if_icmp .ne 38, 3) := by decide +kernel
theorem dX13_isLess_52 : decode cX13_isLess 52 = .ok (.aload_n 0, 1) := by decide +kernel
theorem dX13_isLess_53 : decode cX13_isLess 53 = .ok (.aload_n 0, 1) := by decide +kernel
theorem dX13_isLess_54 : decode cX13_isLess 54 = .ok (.getfield 175, 3) := by decide +kernel
theorem dX13_isLess_57 : decode cX13_isLess 57 = .ok (.iload_n 1, 1) := by decide +kernel
theorem dX13_isLess_58 : decode cX13_isLess 58 = .ok (.iaload, 1) := by decide +kernel
theorem dX13_isLess_59 : decode cX13_isLess 59 = .ok (.aload_n 0, 1) := by decide +kernel
theorem dX13_isLess_60 : decode cX13_isLess 60 = .ok (.getfield 178, 3) := by decide +kernel
theorem dX13_isLess_63 : decode cX13_isLess 63 = .ok (.iload_n 1, 1) := by decide +kernel
theorem dX13_isLess_64 : decode cX13_isLess 64 = .ok (.iaload, 1) := by decide +kernel
theorem dX13_isLess_65 : decode cX13_isLess 65 = .ok (.aload_n 0, 1) := by decide +kernel
theorem dX13_isLess_66 : decode cX13_isLess 66 = .ok (.getfield 175, 3) := by decide +kernel
theorem dX13_isLess_69 : decode cX13_isLess 69 = .ok (.iload_n 2, 1) := by decide +kernel
theorem dX13_isLess_70 : decode cX13_isLess 70 = .ok (.iaload, 1) := by decide +kernel
theorem dX13_isLess_71 : decode cX13_isLess 71 = .ok (.aload_n 0, 1) := by decide +kernel
theorem dX13_isLess_72 : decode cX13_isLess 72 = .ok (.getfield 178, 3) := by decide +kernel
theorem dX13_isLess_75 : decode cX13_isLess 75 = .ok (.iload_n 2, 1) := by decide +kernel
theorem dX13_isLess_76 : decode cX13_isLess 76 = .ok (.iaload, 1) := by decide +kernel
theorem dX13_isLess_77 : decode cX13_isLess 77 = .ok (.invokevirtual 474, 3) := by decide +kernel
theorem dX13_isLess_80 : decode cX13_isLess 80 = .ok (.ifCond .ge 7, 3) := by decide +kernel
theorem dX13_isLess_83 : decode cX13_isLess 83 = .ok (.iconst 1, 1) := by decide +kernel
theorem dX13_isLess_84 : decode cX13_isLess 84 = .ok (.goto 4, 3) := by decide +kernel
theorem dX13_isLess_87 : decode cX13_isLess 87 = .ok (.iconst 0, 1) := by decide +kernel
theorem dX13_isLess_88 : decode cX13_isLess 88 = .ok (.ireturn, 1) := by decide +kernel
theorem dX13_compare_0 : decode cX13_compare 0 = .ok (.aload_n 0, 1) := by decide +kernel
theorem dX13_compare_1 : decode cX13_compare 1 = .ok (.dup, 1) := by decide +kernel
theorem dX13_compare_2 : decode cX13_compare 2 = .ok (.getfield 440, 3) := by decide +kernel
theorem dX13_compare_5 : decode cX13_compare 5 = .ok (.iconst 2, 1) := by decide +kernel
theorem dX13_compare_6 : decode cX13_compare 6 = .ok (.isub, 1) := by decide +kernel
theorem dX13_compare_7 : decode cX13_compare 7 = .ok (.putfield 440, 3) := by decide +kernel
theorem dX13_compare_10 : decode cX13_compare 10 = .ok (.aload_n 0, 1) := by decide +kernel
theorem dX13_compare_11 : decode cX13_compare 11 = .ok (.getfield 440, 3) := by decide +kernel
theorem dX13_compare_14 : decode cX13_compare 14 = .ok (.istore_n 2, 1) := by decide +kernel
theorem dX13_compare_15 : decode cX13_compare 15 = .ok (.aload_n 0, 1) := by decide +kernel
theorem dX13_compare_16 : decode cX13_compare 16 = .ok (.getfield 440, 3) := by decide +kernel
theorem dX13_compare_19 : decode cX13_compare 19 = .ok (.iconst 1, 1) := by decide +kernel
theorem dX13_compare_20 : decode cX13_compare 20 = .ok (.iadd, 1) := by decide +kernel
theorem dX13_compare_21 : decode cX13_compare 21 = .ok (.istore_n 3, 1) := by decide +kernel
theorem dX13_compare_22 : decode cX13_compare 22 = .ok (.aload_n 0, 1) := by decide +kernel
theorem dX13_compare_23 : decode cX13_compare 23 = .ok (.iload_n 2, 1) := by decide +kernel
theorem dX13_compare_24 : decode cX13_compare 24 = .ok (.iload_n 3, 1) := by decide +kernel
theorem dX13_compare_25 : decode cX13_compare 25 = .ok (.invokevirtual 488, 3) := by decide +kernel
theorem dX13_compare_28 : decode cX13_compare 28 = .ok (.istore 4, 2) := by decide +kernel
theorem dX13_compare_30 : decode cX13_compare 30 = .ok (.iload_n 1, 1) := by decide +kernel
theorem dX13_compare_31 : decode cX13_compare 31 = .ok (.ifCond .ne 8, 3) := by decide +kernel
theorem dX13_compare_34 : decode cX13_compare 34 = .ok (.iload 4, 2) := by decide +kernel
theorem dX13_compare_36 : decode cX13_compare 36 = .ok (.goto 77, 3) := by decide +kernel
theorem dX13_compare_39 : decode cX13_compare 39 = .ok (.iload_n 1, 1) := by decide +kernel
theorem dX13_compare_40 : decode cX13_compare 40 = .ok (.iconst 1, 1) := by decide +kernel
theorem dX13_compare_41 : decode cX13_compare 41 = .ok (.if_icmp .ne 16, 3) := by decide +kernel
theorem dX13_compare_44 : decode cX13_compare 44 = .ok (.iload 4, 2) := by decide +kernel
theorem dX13_compare_46 : decode cX13_compare 46 = .ok (.ifCond .ne 7, 3) := by decide +kernel
theorem dX13_compare_49 : decode cX13_compare 49 = .ok (.iconst 1, 1) := by decide +kernel
theorem dX13_compare_50 : decode cX13_compare 50 = .ok (.goto 63, 3) := by decide +kernel
theorem dX13_compare_53 : decode cX13_compare 53 = .ok (.iconst 0, 1) := by decide +kernel
theorem dX13_compare_54 : decode cX13_compare 54 = .ok (.goto 59, 3) := by decide +kernel
theorem dX13_compare_57 : decode cX13_compare 57 = .ok (.iload_n 1, 1) := by decide +kernel
theorem dX13_compare_58 : decode cX13_compare 58 = .ok (.iconst 4, 1) := by decide +kernel
theorem dX13_compare_59 : decode cX13_compare 59 = .ok (.if_icmp .ge 30, 3) := by decide +kernel
theorem dX13_compare_62 : decode cX13_compare 62 = .ok (.aload_n 0, 1) := by decide +kernel
theorem dX13_compare_63 : decode cX13_compare 63 = .ok (.iload_n 2, 1) := by decide +kernel
theorem dX13_compare_64 : decode cX13_compare 64 = .ok (.iload_n 3, 1) := by decide +kernel
theorem dX13_compare_65 : decode cX13_compare 65 = .ok (.invokevirtual 491, 3) := by decide +kernel
theorem dX13_compare_68 : decode cX13_compare 68 = .ok (.ifCond .ne 13, 3) := by decide +kernel
theorem dX13_compare_71 : decode cX13_compare 71 = .ok (.iload_n 1, 1) := by decide +kernel
theorem dX13_compare_72 : decode cX13_compare 72 = .ok (.iconst 3, 1) := by decide +kernel
theorem dX13_compare_73 : decode cX13_compare 73 = .ok (.if_icmp .ne 12, 3) := by decide +kernel
theorem dX13_compare_76 : decode cX13_compare 76 = .ok (.iload 4, 2) := by decide +kernel
theorem dX13_compare_78 : decode cX13_compare 78 = .ok (.ifCond .eq 7, 3) := by decide +kernel
theorem dX13_compare_81 : decode cX13_compare 81 = .ok (.iconst 1, 1) := by decide +kernel
theorem dX13_compare_82 : decode cX13_compare 82 = .ok (.goto 31, 3) := by decide +kernel
theorem dX13_compare_85 : decode cX13_compare 85 = .ok (.iconst 0, 1) := by decide +kernel
theorem dX13_compare_86 : decode cX13_compare 86 = .ok (.goto 27, 3) := by decide +kernel
theorem dX13_compare_89 : decode cX13_compare 89 = .ok (.aload_n 0, 1) := by decide +kernel
theorem dX13_compare_90 : decode cX13_compare 90 = .ok (.iload_n 3, 1) := by decide +kernel
theorem dX13_compare_91 : decode cX13_compare 91 = .ok (.iload_n 2, 1) := by decide +kernel
theorem dX13_compare_92 : decode cX13_compare 92 = .ok (.invokevirtual 491, 3) := by decide +kernel
theorem dX13_compare_95 : decode cX13_compare 95 = .ok (.ifCond .ne 13, 3) := by decide +kernel
theorem dX13_compare_98 : decode cX13_compare 98 = .ok (.iload_n 1, 1) := by decide +kernel
theorem dX13_compare_99 : decode cX13_compare 99 = .ok (.iconst 5, 1) := by decide +kernel
theorem dX13_compare_100 : decode cX13_compare 100 = .ok (.if_icmp .ne 12, 3) := by decide +kernel
theorem dX13_compare_103 : decode cX13_compare 103 = .ok (.iload 4, 2) := by decide +kernel
theorem dX13_compare_105 : decode cX13_compare 105 = .ok (.ifCond .eq 7, 3) := by decide +kernel
theorem dX13_compare_108 : decode cX13_compare 108 = .ok (.iconst 1, 1) := by decide +kernel
theorem dX13_compare_109 : decode cX13_compare 109 = .ok (.goto 4, 3) := by decide +kernel
theorem dX13_compare_112 : decode cX13_compare 112 = .ok (.iconst 0, 1) := by decide +kernel
theorem dX13_compare_113 : decode cX13_compare 113 = .ok (.istore 5, 2) := by decide +kernel
theorem dX13_compare_115 : decode cX13_compare 115 = .ok (.aload_n 0, 1) := by decide +kernel
theorem dX13_compare_116 : decode cX13_compare 116 = .ok (.iload 5, 2) := by decide +kernel
theorem dX13_compare_118 : decode cX13_compare 118 = .ok (.ifCond .eq 7, 3) := by decide +kernel
theorem dX13_compare_121 : decode cX13_compare 121 = .ok (.iconst 2, 1) := by decide +kernel
theorem dX13_compare_122 : decode cX13_compare 122 = .ok (.goto 4, 3) := by decide +kernel
theorem dX13_compare_125 : decode cX13_compare 125 = .ok (.iconst 1, 1) := by decide +kernel
theorem dX13_compare_126 : decode cX13_compare 126 = .ok (.iconst 0, 1) := by decide +kernel
theorem dX13_compare_127 : decode cX13_compare 127 = .ok (.iconst 0, 1) := by decide +kernel
theorem dX13_compare_128 : decode cX13_compare 128 = .ok (.invokevirtual 443, 3) := by decide +kernel
theorem dX13_compare_131 : decode cX13_compare 131 = .ok (.return_, 1) := by decide +kernel
theorem dX13_found_0 : decode cX13_found 0 = .ok (.aload_n 0, 1) := by decide +kernel
theorem dX13_found_1 : decode cX13_found 1 = .ok (.iconst 0, 1) := by decide +kernel
theorem dX13_found_2 : decode cX13_found 2 = .ok (.putfield 193, 3) := by decide +kernel
theorem dX13_found_5 : decode cX13_found 5 = .ok (.iload_n 1, 1) := by decide +kernel
theorem dX13_found_6 : decode cX13_found 6 = .ok (.ifCond .lt 20, 3) := by decide +kernel
theorem dX13_found_9 : decode cX13_found 9 = .ok (.iload_n 1, 1) := by decide +kernel
theorem dX13_found_10 : decode cX13_found 10 = .ok (.aload_n 0, 1) := by decide +kernel
theorem dX13_found_11 : decode cX13_found 11 = .ok (.getfield 304, 3) := by decide +kernel
theorem dX13_found_14 : decode cX13_found 14 = .ok (.if_icmp .ge 12, 3) := by decide +kernel
theorem dX13_found_17 : decode cX13_found 17 = .ok (.aload_n 0, 1) := by decide +kernel
theorem dX13_found_18 : decode cX13_found 18 = .ok (.getfield 187, 3) := by decide +kernel
theorem dX13_found_21 : decode cX13_found 21 = .ok (.iload_n 1, 1) := by decide +kernel
theorem dX13_found_22 : decode cX13_found 22 = .ok (.iaload, 1) := by decide +kernel
theorem dX13_found_23 : decode cX13_found 23 = .ok (.goto 4, 3) := by decide +kernel
theorem dX13_found_26 : decode cX13_found 26 = .ok (.iconst (-1), 1) := by decide +kernel
theorem dX13_found_27 : decode cX13_found 27 = .ok (.ireturn, 1) := by decide +kernel
theorem dX13_isNode_0 : decode cX13_isNode 0 = .ok (.aload_n 0, 1) := by decide +kernel
theorem dX13_isNode_1 : decode cX13_isNode 1 = .ok (.iconst 0, 1) := by decide +kernel
theorem dX13_isNode_2 : decode cX13_isNode 2 = .ok (.putfield 193, 3) := by decide +kernel
theorem dX13_isNode_5 : decode cX13_isNode 5 = .ok (.iload_n 1, 1) := by decide +kernel
theorem dX13_isNode_6 : decode cX13_isNode 6 = .ok (.ifCond .lt 15, 3) := by decide +kernel
theorem dX13_isNode_9 : decode cX13_isNode 9 = .ok (.iload_n 1, 1) := by decide +kernel
theorem dX13_isNode_10 : decode cX13_isNode 10 = .ok (.aload_n 0, 1) := by decide +kernel
theorem dX13_isNode_11 : decode cX13_isNode 11 = .ok (.getfield 238, 3) := by decide +kernel
theorem dX13_isNode_14 : decode cX13_isNode 14 = .ok (.if_icmp .ge 7, 3) := by decide +kernel
theorem dX13_isNode_17 : decode cX13_isNode 17 = .ok (.iconst 1, 1) := by decide +kernel
theorem dX13_isNode_18 : decode cX13_isNode 18 = .ok (.goto 4, 3) := by decide +kernel
theorem dX13_isNode_21 : decode cX13_isNode 21 = .ok (.iconst 0, 1) := by decide +kernel
theorem dX13_isNode_22 : decode cX13_isNode 22 = .ok (.ireturn, 1) := by decide +kernel
theorem dX13_kind_0 : decode cX13_kind 0 = .ok (.aload_n 0, 1) := by decide +kernel
theorem dX13_kind_1 : decode cX13_kind 1 = .ok (.iload_n 1, 1) := by decide +kernel
theorem dX13_kind_2 : decode cX13_kind 2 = .ok (.invokevirtual 512, 3) := by decide +kernel
theorem dX13_kind_5 : decode cX13_kind 5 = .ok (.ifCond .eq 12, 3) := by decide +kernel
theorem dX13_kind_8 : decode cX13_kind 8 = .ok (.aload_n 0, 1) := by decide +kernel
theorem dX13_kind_9 : decode cX13_kind 9 = .ok (.getfield 23, 3) := by decide +kernel
theorem dX13_kind_12 : decode cX13_kind 12 = .ok (.iload_n 1, 1) := by decide +kernel
theorem dX13_kind_13 : decode cX13_kind 13 = .ok (.iaload, 1) := by decide +kernel
theorem dX13_kind_14 : decode cX13_kind 14 = .ok (.goto 4, 3) := by decide +kernel
theorem dX13_kind_17 : decode cX13_kind 17 = .ok (.iconst (-1), 1) := by decide +kernel
theorem dX13_kind_18 : decode cX13_kind 18 = .ok (.ireturn, 1) := by decide +kernel
theorem dX13_size_0 : decode cX13_size 0 = .ok (.aload_n 0, 1) := by decide +kernel
theorem dX13_size_1 : decode cX13_size 1 = .ok (.iload_n 1, 1) := by decide +kernel
theorem dX13_size_2 : decode cX13_size 2 = .ok (.invokevirtual 512, 3) := by decide +kernel
theorem dX13_size_5 : decode cX13_size 5 = .ok (.ifCond .ne 5, 3) := by decide +kernel
theorem dX13_size_8 : decode cX13_size 8 = .ok (.iconst 0, 1) := by decide +kernel
theorem dX13_size_9 : decode cX13_size 9 = .ok (.ireturn, 1) := by decide +kernel
theorem dX13_size_10 : decode cX13_size 10 = .ok (.aload_n 0, 1) := by decide +kernel
theorem dX13_size_11 : decode cX13_size 11 = .ok (.getfield 23, 3) := by decide +kernel
theorem dX13_size_14 : decode cX13_size 14 = .ok (.iload_n 1, 1) := by decide +kernel
theorem dX13_size_15 : decode cX13_size 15 = .ok (.iaload, 1) := by decide +kernel
theorem dX13_size_16 : decode cX13_size 16 = .ok (.iconst 3, 1) := by decide +kernel
theorem dX13_size_17 : decode cX13_size 17 = .ok (.if_icmp .eq 13, 3) := by decide +kernel
theorem dX13_size_20 : decode cX13_size 20 = .ok (.aload_n 0, 1) := by decide +kernel
theorem dX13_size_21 : decode cX13_size 21 = .ok (.getfield 23, 3) := by decide +kernel
theorem dX13_size_24 : decode cX13_size 24 = .ok (.iload_n 1, 1) := by decide +kernel
theorem dX13_size_25 : decode cX13_size 25 = .ok (.iaload, 1) := by decide +kernel
theorem dX13_size_26 : decode cX13_size 26 = .ok (.iconst 4, 1) := by decide +kernel
theorem dX13_size_27 : decode cX13_size 27 = .ok (.if_icmp .ne 12, 3) := by decide +kernel
theorem dX13_size_30 : decode cX13_size 30 = .ok (.aload_n 0, 1) := by decide +kernel
theorem dX13_size_31 : decode cX13_size 31 = .ok (.getfield 39, 3) := by decide +kernel
theorem dX13_size_34 : decode cX13_size 34 = .ok (.iload_n 1, 1) := by decide +kernel
theorem dX13_size_35 : decode cX13_size 35 = .ok (.iaload, 1) := by decide +kernel
theorem dX13_size_36 : decode cX13_size 36 = .ok (.goto 8, 3) := by decide +kernel
theorem dX13_size_39 : decode cX13_size 39 = .ok (.aload_n 0, 1) := by decide +kernel
theorem dX13_size_40 : decode cX13_size 40 = .ok (.iload_n 1, 1) := by decide +kernel
theorem dX13_size_41 : decode cX13_size 41 = .ok (.invokevirtual 428, 3) := by decide +kernel
theorem dX13_size_44 : decode cX13_size 44 = .ok (.ireturn, 1) := by decide +kernel
theorem dX13_character_0 : decode cX13_character 0 = .ok (.aload_n 0, 1) := by decide +kernel
theorem dX13_character_1 : decode cX13_character 1 = .ok (.iload_n 1, 1) := by decide +kernel
theorem dX13_character_2 : decode cX13_character 2 = .ok (.invokevirtual 512, 3) := by decide +kernel
theorem dX13_character_5 : decode cX13_character 5 = .ok (.ifCond .eq 45, 3) := by decide +kernel
theorem dX13_character_8 : decode cX13_character 8 = .ok (.aload_n 0, 1) := by decide +kernel
theorem dX13_character_9 : decode cX13_character 9 = .ok (.getfield 23, 3) := by decide +kernel
theorem dX13_character_12 : decode cX13_character 12 = .ok (.iload_n 1, 1) := by decide +kernel
theorem dX13_character_13 : decode cX13_character 13 = .ok (.iaload, 1) := by decide +kernel
theorem dX13_character_14 : decode cX13_character 14 = .ok (.iconst 4, 1) := by decide +kernel
theorem dX13_character_15 : decode cX13_character 15 = .ok (.if_icmp .ne 35, 3) := by decide +kernel
theorem dX13_character_18 : decode cX13_character 18 = .ok (.iload_n 2, 1) := by decide +kernel
theorem dX13_character_19 : decode cX13_character 19 = .ok (.ifCond .lt 31, 3) := by decide +kernel
theorem dX13_character_22 : decode cX13_character 22 = .ok (.iload_n 2, 1) := by decide +kernel
theorem dX13_character_23 : decode cX13_character 23 = .ok (.aload_n 0, 1) := by decide +kernel
theorem dX13_character_24 : decode cX13_character 24 = .ok (.getfield 39, 3) := by decide +kernel
theorem dX13_character_27 : decode cX13_character 27 = .ok (.iload_n 1, 1) := by decide +kernel
theorem dX13_character_28 : decode cX13_character 28 = .ok (.iaload, 1) := by decide +kernel
theorem dX13_character_29 : decode cX13_character 29 = .ok (.if_icmp .ge 21, 3) := by decide +kernel
theorem dX13_character_32 : decode cX13_character 32 = .ok (.aload_n 0, 1) := by decide +kernel
theorem dX13_character_33 : decode cX13_character 33 = .ok (.getfield 20, 3) := by decide +kernel
theorem dX13_character_36 : decode cX13_character 36 = .ok (.aload_n 0, 1) := by decide +kernel
theorem dX13_character_37 : decode cX13_character 37 = .ok (.getfield 33, 3) := by decide +kernel
theorem dX13_character_40 : decode cX13_character 40 = .ok (.iload_n 1, 1) := by decide +kernel
theorem dX13_character_41 : decode cX13_character 41 = .ok (.iaload, 1) := by decide +kernel
theorem dX13_character_42 : decode cX13_character 42 = .ok (.iconst 1, 1) := by decide +kernel
theorem dX13_character_43 : decode cX13_character 43 = .ok (.iadd, 1) := by decide +kernel
theorem dX13_character_44 : decode cX13_character 44 = .ok (.iload_n 2, 1) := by decide +kernel
theorem dX13_character_45 : decode cX13_character 45 = .ok (.iadd, 1) := by decide +kernel
theorem dX13_character_46 : decode cX13_character 46 = .ok (.baload, 1) := by decide +kernel
theorem dX13_character_47 : decode cX13_character 47 = .ok (.goto 4, 3) := by decide +kernel
theorem dX13_character_50 : decode cX13_character 50 = .ok (.iconst 0, 1) := by decide +kernel
theorem dX13_character_51 : decode cX13_character 51 = .ok (.ireturn, 1) := by decide +kernel
theorem dX13_outer_0 : decode cX13_outer 0 = .ok (.aload_n 0, 1) := by decide +kernel
theorem dX13_outer_1 : decode cX13_outer 1 = .ok (.iload_n 1, 1) := by decide +kernel
theorem dX13_outer_2 : decode cX13_outer 2 = .ok (.invokevirtual 512, 3) := by decide +kernel
theorem dX13_outer_5 : decode cX13_outer 5 = .ok (.ifCond .eq 12, 3) := by decide +kernel
theorem dX13_outer_8 : decode cX13_outer 8 = .ok (.aload_n 0, 1) := by decide +kernel
theorem dX13_outer_9 : decode cX13_outer 9 = .ok (.getfield 27, 3) := by decide +kernel
theorem dX13_outer_12 : decode cX13_outer 12 = .ok (.iload_n 1, 1) := by decide +kernel
theorem dX13_outer_13 : decode cX13_outer 13 = .ok (.iaload, 1) := by decide +kernel
theorem dX13_outer_14 : decode cX13_outer 14 = .ok (.goto 4, 3) := by decide +kernel
theorem dX13_outer_17 : decode cX13_outer 17 = .ok (.iconst (-1), 1) := by decide +kernel
theorem dX13_outer_18 : decode cX13_outer 18 = .ok (.ireturn, 1) := by decide +kernel
theorem dX13_tell_0 : decode cX13_tell 0 = .ok (.aload_n 0, 1) := by decide +kernel
theorem dX13_tell_1 : decode cX13_tell 1 = .ok (.getfield 190, 3) := by decide +kernel
theorem dX13_tell_4 : decode cX13_tell 4 = .ok (.aload_n 0, 1) := by decide +kernel
theorem dX13_tell_5 : decode cX13_tell 5 = .ok (.getfield 515, 3) := by decide +kernel
theorem dX13_tell_8 : decode cX13_tell 8 = .ok (.iload_n 1, 1) := by decide +kernel
theorem dX13_tell_9 : decode cX13_tell 9 = .ok (.i2b, 1) := by decide +kernel
theorem dX13_tell_10 : decode cX13_tell 10 = .ok (.bastore, 1) := by decide +kernel
theorem dX13_tell_11 : decode cX13_tell 11 = .ok (.aload_n 0, 1) := by decide +kernel
theorem dX13_tell_12 : decode cX13_tell 12 = .ok (.dup, 1) := by decide +kernel
theorem dX13_tell_13 : decode cX13_tell 13 = .ok (.getfield 515, 3) := by decide +kernel
theorem dX13_tell_16 : decode cX13_tell 16 = .ok (.iconst 1, 1) := by decide +kernel
theorem dX13_tell_17 : decode cX13_tell 17 = .ok (.iadd, 1) := by decide +kernel
theorem dX13_tell_18 : decode cX13_tell 18 = .ok (.putfield 515, 3) := by decide +kernel
theorem dX13_tell_21 : decode cX13_tell 21 = .ok (.return_, 1) := by decide +kernel
theorem dX13_tellStep_0 : decode cX13_tellStep 0 = .ok (.aload_n 0, 1) := by decide +kernel
theorem dX13_tellStep_1 : decode cX13_tellStep 1 = .ok (.bipush 91, 2) := by decide +kernel
theorem dX13_tellStep_3 : decode cX13_tellStep 3 = .ok (.invokevirtual 518, 3) := by decide +kernel
theorem dX13_tellStep_6 : decode cX13_tellStep 6 = .ok (.aload_n 0, 1) := by decide +kernel
theorem dX13_tellStep_7 : decode cX13_tellStep 7 = .ok (.getfield 23, 3) := by decide +kernel
theorem dX13_tellStep_10 : decode cX13_tellStep 10 = .ok (.aload_n 0, 1) := by decide +kernel
theorem dX13_tellStep_11 : decode cX13_tellStep 11 = .ok (.getfield 27, 3) := by decide +kernel
theorem dX13_tellStep_14 : decode cX13_tellStep 14 = .ok (.iload_n 1, 1) := by decide +kernel
theorem dX13_tellStep_15 : decode cX13_tellStep 15 = .ok (.iaload, 1) := by decide +kernel
theorem dX13_tellStep_16 : decode cX13_tellStep 16 = .ok (.iaload, 1) := by decide +kernel
theorem dX13_tellStep_17 : decode cX13_tellStep 17 = .ok (.bipush 6, 2) := by decide +kernel
theorem dX13_tellStep_19 : decode cX13_tellStep 19 = .ok (.if_icmp .ne 53, 3) := by decide +kernel
theorem dX13_tellStep_22 : decode cX13_tellStep 22 = .ok (.aload_n 0, 1) := by decide +kernel
theorem dX13_tellStep_23 : decode cX13_tellStep 23 = .ok (.bipush 39, 2) := by decide +kernel
theorem dX13_tellStep_25 : decode cX13_tellStep 25 = .ok (.invokevirtual 518, 3) := by decide +kernel
theorem dX13_tellStep_28 : decode cX13_tellStep 28 = .ok (.iconst 0, 1) := by decide +kernel
theorem dX13_tellStep_29 : decode cX13_tellStep 29 = .ok (.istore_n 2, 1) := by decide +kernel
theorem dX13_tellStep_30 : decode cX13_tellStep 30 = .ok (.iload_n 2, 1) := by decide +kernel
theorem dX13_tellStep_31 : decode cX13_tellStep 31 = .ok (.aload_n 0, 1) := by decide +kernel
theorem dX13_tellStep_32 : decode cX13_tellStep 32 = .ok (.getfield 45, 3) := by decide +kernel
theorem dX13_tellStep_35 : decode cX13_tellStep 35 = .ok (.iload_n 1, 1) := by decide +kernel
theorem dX13_tellStep_36 : decode cX13_tellStep 36 = .ok (.iaload, 1) := by decide +kernel
theorem dX13_tellStep_37 : decode cX13_tellStep 37 = .ok (.if_icmp .ge 26, 3) := by decide +kernel
theorem dX13_tellStep_40 : decode cX13_tellStep 40 = .ok (.aload_n 0, 1) := by decide +kernel
theorem dX13_tellStep_41 : decode cX13_tellStep 41 = .ok (.aload_n 0, 1) := by decide +kernel
theorem dX13_tellStep_42 : decode cX13_tellStep 42 = .ok (.getfield 20, 3) := by decide +kernel
theorem dX13_tellStep_45 : decode cX13_tellStep 45 = .ok (.aload_n 0, 1) := by decide +kernel
theorem dX13_tellStep_46 : decode cX13_tellStep 46 = .ok (.getfield 42, 3) := by decide +kernel
theorem dX13_tellStep_49 : decode cX13_tellStep 49 = .ok (.iload_n 1, 1) := by decide +kernel
theorem dX13_tellStep_50 : decode cX13_tellStep 50 = .ok (.iaload, 1) := by decide +kernel
theorem dX13_tellStep_51 : decode cX13_tellStep 51 = .ok (.iload_n 2, 1) := by decide +kernel
theorem dX13_tellStep_52 : decode cX13_tellStep 52 = .ok (.iadd, 1) := by decide +kernel
theorem dX13_tellStep_53 : decode cX13_tellStep 53 = .ok (.baload, 1) := by decide +kernel
theorem dX13_tellStep_54 : decode cX13_tellStep 54 = .ok (.invokevirtual 518, 3) := by decide +kernel
theorem dX13_tellStep_57 : decode cX13_tellStep 57 = .ok (.iinc 2 1, 3) := by decide +kernel
theorem dX13_tellStep_60 : decode cX13_tellStep 60 = .ok (.goto (-30), 3) := by decide +kernel
theorem dX13_tellStep_63 : decode cX13_tellStep 63 = .ok (.aload_n 0, 1) := by decide +kernel
theorem dX13_tellStep_64 : decode cX13_tellStep 64 = .ok (.bipush 39, 2) := by decide +kernel
theorem dX13_tellStep_66 : decode cX13_tellStep 66 = .ok (.invokevirtual 518, 3) := by decide +kernel
theorem dX13_tellStep_69 : decode cX13_tellStep 69 = .ok (.goto 76, 3) := by decide +kernel
theorem dX13_tellStep_72 : decode cX13_tellStep 72 = .ok (.iconst 0, 1) := by decide +kernel
theorem dX13_tellStep_73 : decode cX13_tellStep 73 = .ok (.istore_n 2, 1) := by decide +kernel
theorem dX13_tellStep_74 : decode cX13_tellStep 74 = .ok (.aload_n 0, 1) := by decide +kernel
theorem dX13_tellStep_75 : decode cX13_tellStep 75 = .ok (.getfield 27, 3) := by decide +kernel
theorem dX13_tellStep_78 : decode cX13_tellStep 78 = .ok (.iload_n 1, 1) := by decide +kernel
theorem dX13_tellStep_79 : decode cX13_tellStep 79 = .ok (.iaload, 1) := by decide +kernel
theorem dX13_tellStep_80 : decode cX13_tellStep 80 = .ok (.iconst 1, 1) := by decide +kernel
theorem dX13_tellStep_81 : decode cX13_tellStep 81 = .ok (.iadd, 1) := by decide +kernel
theorem dX13_tellStep_82 : decode cX13_tellStep 82 = .ok (.istore_n 3, 1) := by decide +kernel
theorem dX13_tellStep_83 : decode cX13_tellStep 83 = .ok (.iload_n 3, 1) := by decide +kernel
theorem dX13_tellStep_84 : decode cX13_tellStep 84 = .ok (.iload_n 1, 1) := by decide +kernel
theorem dX13_tellStep_85 : decode cX13_tellStep 85 = .ok (.if_icmp .ge 32, 3) := by decide +kernel
theorem dX13_tellStep_88 : decode cX13_tellStep 88 = .ok (.iload_n 2, 1) := by decide +kernel
theorem dX13_tellStep_89 : decode cX13_tellStep 89 = .ok (.aload_n 0, 1) := by decide +kernel
theorem dX13_tellStep_90 : decode cX13_tellStep 90 = .ok (.getfield 27, 3) := by decide +kernel
theorem dX13_tellStep_93 : decode cX13_tellStep 93 = .ok (.iload_n 3, 1) := by decide +kernel
theorem dX13_tellStep_94 : decode cX13_tellStep 94 = .ok (.iaload, 1) := by decide +kernel
theorem dX13_tellStep_95 : decode cX13_tellStep 95 = .ok (.aload_n 0, 1) := by decide +kernel
theorem dX13_tellStep_96 : decode cX13_tellStep 96 = .ok (.getfield 27, 3) := by decide +kernel
theorem dX13_tellStep_99 : decode cX13_tellStep 99 = .ok (.iload_n 1, 1) := by decide +kernel
theorem dX13_tellStep_100 : decode cX13_tellStep 100 = .ok (.iaload, 1) := by decide +kernel
theorem dX13_tellStep_101 : decode cX13_tellStep 101 = .ok (.if_icmp .ne 7, 3) := by decide +kernel
theorem dX13_tellStep_104 : decode cX13_tellStep 104 = .ok (.iconst 1, 1) := by decide +kernel
theorem dX13_tellStep_105 : decode cX13_tellStep 105 = .ok (.goto 4, 3) := by decide +kernel
theorem dX13_tellStep_108 : decode cX13_tellStep 108 = .ok (.iconst 0, 1) := by decide +kernel
theorem dX13_tellStep_109 : decode cX13_tellStep 109 = .ok (.iadd, 1) := by decide +kernel
theorem dX13_tellStep_110 : decode cX13_tellStep 110 = .ok (.istore_n 2, 1) := by decide +kernel
theorem dX13_tellStep_111 : decode cX13_tellStep 111 = .ok (.iinc 3 1, 3) := by decide +kernel
theorem dX13_tellStep_114 : decode cX13_tellStep 114 = .ok (.goto (-31), 3) := by decide +kernel
theorem dX13_tellStep_117 : decode cX13_tellStep 117 = .ok (.iload_n 2, 1) := by decide +kernel
theorem dX13_tellStep_118 : decode cX13_tellStep 118 = .ok (.bipush 9, 2) := by decide +kernel
theorem dX13_tellStep_120 : decode cX13_tellStep 120 = .ok (.if_icmp .le 14, 3) := by decide +kernel
theorem dX13_tellStep_123 : decode cX13_tellStep 123 = .ok (.aload_n 0, 1) := by decide +kernel
theorem dX13_tellStep_124 : decode cX13_tellStep 124 = .ok (.bipush 48, 2) := by decide +kernel
theorem dX13_tellStep_126 : decode cX13_tellStep 126 = .ok (.iload_n 2, 1) := by decide +kernel
theorem dX13_tellStep_127 : decode cX13_tellStep 127 = .ok (.bipush 10, 2) := by decide +kernel
theorem dX13_tellStep_129 : decode cX13_tellStep 129 = .ok (.idiv, 1) := by decide +kernel
theorem dX13_tellStep_130 : decode cX13_tellStep 130 = .ok (.iadd, 1) := by decide +kernel
theorem dX13_tellStep_131 : decode cX13_tellStep 131 = .ok (.invokevirtual 518, 3) := by decide +kernel
theorem dX13_tellStep_134 : decode cX13_tellStep 134 = .ok (.aload_n 0, 1) := by decide +kernel
theorem dX13_tellStep_135 : decode cX13_tellStep 135 = .ok (.bipush 48, 2) := by decide +kernel
theorem dX13_tellStep_137 : decode cX13_tellStep 137 = .ok (.iload_n 2, 1) := by decide +kernel
theorem dX13_tellStep_138 : decode cX13_tellStep 138 = .ok (.bipush 10, 2) := by decide +kernel
theorem dX13_tellStep_140 : decode cX13_tellStep 140 = .ok (.irem, 1) := by decide +kernel
theorem dX13_tellStep_141 : decode cX13_tellStep 141 = .ok (.iadd, 1) := by decide +kernel
theorem dX13_tellStep_142 : decode cX13_tellStep 142 = .ok (.invokevirtual 518, 3) := by decide +kernel
theorem dX13_tellStep_145 : decode cX13_tellStep 145 = .ok (.aload_n 0, 1) := by decide +kernel
theorem dX13_tellStep_146 : decode cX13_tellStep 146 = .ok (.bipush 93, 2) := by decide +kernel
theorem dX13_tellStep_148 : decode cX13_tellStep 148 = .ok (.invokevirtual 518, 3) := by decide +kernel
theorem dX13_tellStep_151 : decode cX13_tellStep 151 = .ok (.return_, 1) := by decide +kernel
theorem dX13_path_0 : decode cX13_path 0 = .ok (.aload_n 0, 1) := by decide +kernel
theorem dX13_path_1 : decode cX13_path 1 = .ok (.iload_n 1, 1) := by decide +kernel
theorem dX13_path_2 : decode cX13_path 2 = .ok (.invokevirtual 512, 3) := by decide +kernel
theorem dX13_path_5 : decode cX13_path 5 = .ok (.ifCond .ne 5, 3) := by decide +kernel
theorem dX13_path_8 : decode cX13_path 8 = .ok (.iconst 0, 1) := by decide +kernel
theorem dX13_path_9 : decode cX13_path 9 = .ok (.ireturn, 1) := by decide +kernel
theorem dX13_path_10 : decode cX13_path 10 = .ok (.aload_n 0, 1) := by decide +kernel
theorem dX13_path_11 : decode cX13_path 11 = .ok (.iconst 0, 1) := by decide +kernel
theorem dX13_path_12 : decode cX13_path 12 = .ok (.putfield 515, 3) := by decide +kernel
theorem dX13_path_15 : decode cX13_path 15 = .ok (.aload_n 0, 1) := by decide +kernel
theorem dX13_path_16 : decode cX13_path 16 = .ok (.bipush 36, 2) := by decide +kernel
theorem dX13_path_18 : decode cX13_path 18 = .ok (.invokevirtual 518, 3) := by decide +kernel
theorem dX13_path_21 : decode cX13_path 21 = .ok (.iconst 1, 1) := by decide +kernel
theorem dX13_path_22 : decode cX13_path 22 = .ok (.istore_n 3, 1) := by decide +kernel
theorem dX13_path_23 : decode cX13_path 23 = .ok (.iload_n 3, 1) := by decide +kernel
theorem dX13_path_24 : decode cX13_path 24 = .ok (.iload_n 1, 1) := by decide +kernel
theorem dX13_path_25 : decode cX13_path 25 = .ok (.if_icmp .gt 24, 3) := by decide +kernel
theorem dX13_path_28 : decode cX13_path 28 = .ok (.aload_n 0, 1) := by decide +kernel
theorem dX13_path_29 : decode cX13_path 29 = .ok (.getfield 30, 3) := by decide +kernel
theorem dX13_path_32 : decode cX13_path 32 = .ok (.iload_n 3, 1) := by decide +kernel
theorem dX13_path_33 : decode cX13_path 33 = .ok (.iaload, 1) := by decide +kernel
theorem dX13_path_34 : decode cX13_path 34 = .ok (.iload_n 1, 1) := by decide +kernel
theorem dX13_path_35 : decode cX13_path 35 = .ok (.if_icmp .lt 8, 3) := by decide +kernel
theorem dX13_path_38 : decode cX13_path 38 = .ok (.aload_n 0, 1) := by decide +kernel
theorem dX13_path_39 : decode cX13_path 39 = .ok (.iload_n 3, 1) := by decide +kernel
theorem dX13_path_40 : decode cX13_path 40 = .ok (.invokevirtual 521, 3) := by decide +kernel
theorem dX13_path_43 : decode cX13_path 43 = .ok (.iinc 3 1, 3) := by decide +kernel
theorem dX13_path_46 : decode cX13_path 46 = .ok (.goto (-23), 3) := by decide +kernel
theorem dX13_path_49 : decode cX13_path 49 = .ok (.iload_n 2, 1) := by decide +kernel
theorem dX13_path_50 : decode cX13_path 50 = .ok (.ifCond .lt 20, 3) := by decide +kernel
theorem dX13_path_53 : decode cX13_path 53 = .ok (.iload_n 2, 1) := by decide +kernel
theorem dX13_path_54 : decode cX13_path 54 = .ok (.aload_n 0, 1) := by decide +kernel
theorem dX13_path_55 : decode cX13_path 55 = .ok (.getfield 515, 3) := by decide +kernel
theorem dX13_path_58 : decode cX13_path 58 = .ok (.if_icmp .ge 12, 3) := by decide +kernel
theorem dX13_path_61 : decode cX13_path 61 = .ok (.aload_n 0, 1) := by decide +kernel
theorem dX13_path_62 : decode cX13_path 62 = .ok (.getfield 190, 3) := by decide +kernel
theorem dX13_path_65 : decode cX13_path 65 = .ok (.iload_n 2, 1) := by decide +kernel
theorem dX13_path_66 : decode cX13_path 66 = .ok (.baload, 1) := by decide +kernel
theorem dX13_path_67 : decode cX13_path 67 = .ok (.goto 4, 3) := by decide +kernel
theorem dX13_path_70 : decode cX13_path 70 = .ok (.iconst 0, 1) := by decide +kernel
theorem dX13_path_71 : decode cX13_path 71 = .ok (.ireturn, 1) := by decide +kernel
theorem dX13_text_0 : decode cX13_text 0 = .ok (.aload_n 0, 1) := by decide +kernel
theorem dX13_text_1 : decode cX13_text 1 = .ok (.iload_n 1, 1) := by decide +kernel
theorem dX13_text_2 : decode cX13_text 2 = .ok (.invokevirtual 512, 3) := by decide +kernel
theorem dX13_text_5 : decode cX13_text 5 = .ok (.ifCond .ne 5, 3) := by decide +kernel
theorem dX13_text_8 : decode cX13_text 8 = .ok (.iconst 0, 1) := by decide +kernel
theorem dX13_text_9 : decode cX13_text 9 = .ok (.ireturn, 1) := by decide +kernel
theorem dX13_text_10 : decode cX13_text 10 = .ok (.aload_n 0, 1) := by decide +kernel
theorem dX13_text_11 : decode cX13_text 11 = .ok (.iconst 0, 1) := by decide +kernel
theorem dX13_text_12 : decode cX13_text 12 = .ok (.putfield 515, 3) := by decide +kernel
theorem dX13_text_15 : decode cX13_text 15 = .ok (.iconst 0, 1) := by decide +kernel
theorem dX13_text_16 : decode cX13_text 16 = .ok (.istore_n 3, 1) := by decide +kernel
theorem dX13_text_17 : decode cX13_text 17 = .ok (.aload_n 0, 1) := by decide +kernel
theorem dX13_text_18 : decode cX13_text 18 = .ok (.getfield 33, 3) := by decide +kernel
theorem dX13_text_21 : decode cX13_text 21 = .ok (.iload_n 1, 1) := by decide +kernel
theorem dX13_text_22 : decode cX13_text 22 = .ok (.iaload, 1) := by decide +kernel
theorem dX13_text_23 : decode cX13_text 23 = .ok (.istore 4, 2) := by decide +kernel
theorem dX13_text_25 : decode cX13_text 25 = .ok (.iload 4, 2) := by decide +kernel
theorem dX13_text_27 : decode cX13_text 27 = .ok (.aload_n 0, 1) := by decide +kernel
theorem dX13_text_28 : decode cX13_text 28 = .ok (.getfield 36, 3) := by decide +kernel
theorem dX13_text_31 : decode cX13_text 31 = .ok (.iload_n 1, 1) := by decide +kernel
theorem dX13_text_32 : decode cX13_text 32 = .ok (.iaload, 1) := by decide +kernel
theorem dX13_text_33 : decode cX13_text 33 = .ok (.if_icmp .ge 56, 3) := by decide +kernel
theorem dX13_text_36 : decode cX13_text 36 = .ok (.aload_n 0, 1) := by decide +kernel
theorem dX13_text_37 : decode cX13_text 37 = .ok (.getfield 20, 3) := by decide +kernel
theorem dX13_text_40 : decode cX13_text 40 = .ok (.iload 4, 2) := by decide +kernel
theorem dX13_text_42 : decode cX13_text 42 = .ok (.baload, 1) := by decide +kernel
theorem dX13_text_43 : decode cX13_text 43 = .ok (.istore 5, 2) := by decide +kernel
theorem dX13_text_45 : decode cX13_text 45 = .ok (.iload 5, 2) := by decide +kernel
theorem dX13_text_47 : decode cX13_text 47 = .ok (.bipush 34, 2) := by decide +kernel
theorem dX13_text_49 : decode cX13_text 49 = .ok (.if_icmp .ne 15, 3) := by decide +kernel
theorem dX13_text_52 : decode cX13_text 52 = .ok (.iload_n 3, 1) := by decide +kernel
theorem dX13_text_53 : decode cX13_text 53 = .ok (.ifCond .ne 7, 3) := by decide +kernel
theorem dX13_text_56 : decode cX13_text 56 = .ok (.iconst 1, 1) := by decide +kernel
theorem dX13_text_57 : decode cX13_text 57 = .ok (.goto 8, 3) := by decide +kernel
theorem dX13_text_60 : decode cX13_text 60 = .ok (.iconst 0, 1) := by decide +kernel
theorem dX13_text_61 : decode cX13_text 61 = .ok (.goto 4, 3) := by decide +kernel
theorem dX13_text_64 : decode cX13_text 64 = .ok (.iload_n 3, 1) := by decide +kernel
theorem dX13_text_65 : decode cX13_text 65 = .ok (.istore_n 3, 1) := by decide +kernel
theorem dX13_text_66 : decode cX13_text 66 = .ok (.iload 5, 2) := by decide +kernel
theorem dX13_text_68 : decode cX13_text 68 = .ok (.bipush 32, 2) := by decide +kernel
theorem dX13_text_70 : decode cX13_text 70 = .ok (.if_icmp .ne 7, 3) := by decide +kernel
theorem dX13_text_73 : decode cX13_text 73 = .ok (.iload_n 3, 1) := by decide +kernel
theorem dX13_text_74 : decode cX13_text 74 = .ok (.ifCond .eq 9, 3) := by decide +kernel
theorem dX13_text_77 : decode cX13_text 77 = .ok (.aload_n 0, 1) := by decide +kernel
theorem dX13_text_78 : decode cX13_text 78 = .ok (.iload 5, 2) := by decide +kernel
theorem dX13_text_80 : decode cX13_text 80 = .ok (.invokevirtual 518, 3) := by decide +kernel
theorem dX13_text_83 : decode cX13_text 83 = .ok (.iinc 4 1, 3) := by decide +kernel
theorem dX13_text_86 : decode cX13_text 86 = .ok (.goto (-61), 3) := by decide +kernel
theorem dX13_text_89 : decode cX13_text 89 = .ok (.iload_n 2, 1) := by decide +kernel
theorem dX13_text_90 : decode cX13_text 90 = .ok (.ifCond .lt 20, 3) := by decide +kernel
theorem dX13_text_93 : decode cX13_text 93 = .ok (.iload_n 2, 1) := by decide +kernel
theorem dX13_text_94 : decode cX13_text 94 = .ok (.aload_n 0, 1) := by decide +kernel
theorem dX13_text_95 : decode cX13_text 95 = .ok (.getfield 515, 3) := by decide +kernel
theorem dX13_text_98 : decode cX13_text 98 = .ok (.if_icmp .ge 12, 3) := by decide +kernel
theorem dX13_text_101 : decode cX13_text 101 = .ok (.aload_n 0, 1) := by decide +kernel
theorem dX13_text_102 : decode cX13_text 102 = .ok (.getfield 190, 3) := by decide +kernel
theorem dX13_text_105 : decode cX13_text 105 = .ok (.iload_n 2, 1) := by decide +kernel
theorem dX13_text_106 : decode cX13_text 106 = .ok (.baload, 1) := by decide +kernel
theorem dX13_text_107 : decode cX13_text 107 = .ok (.goto 4, 3) := by decide +kernel
theorem dX13_text_110 : decode cX13_text 110 = .ok (.iconst 0, 1) := by decide +kernel
theorem dX13_text_111 : decode cX13_text 111 = .ok (.ireturn, 1) := by decide +kernel
def mo_isLess_j88 (N : Nat) (y0 : Int32) (S : md_S) : Option (Int32 × md_S) :=
  if md_bo y0 then
  some (y0, S)
  else none
theorem ro_isLess_j88 {l : Launch} {G : mv_G} {B : mv_H} {m N d : Nat} (hG : mv_ok G) (hm : G.2.2.1 ≤ m) {y0 : Int32} {S : md_S} {q : (Int32 × md_S)} (hq : mo_isLess_j88 N y0 S = some q) : mv_rq l G mX13_isLess (d + 2) 88 [none, none, none, none] [.int y0] (md_H G B m S) (md_Q G B m q) := by
  unfold mo_isLess_j88 at hq
  obtain ⟨g88, hq⟩ := md_g hq
  obtain rfl := Option.some.inj hq
  exact q_iret (ty := .boolean) dX13_isLess_88 rfl (md_bnar g88) ⟨rfl, rfl⟩
def mo_isLess_j87 (N : Nat) (S : md_S) : Option (Int32 × md_S) :=
  mo_isLess_j88 N 0 S
theorem ro_isLess_j87 {l : Launch} {G : mv_G} {B : mv_H} {m N d : Nat} (hG : mv_ok G) (hm : G.2.2.1 ≤ m) {S : md_S} {q : (Int32 × md_S)} (hq : mo_isLess_j87 N  S = some q) : mv_rq l G mX13_isLess (d + 2) 87 [none, none, none, none] [] (md_H G B m S) (md_Q G B m q) := by
  unfold mo_isLess_j87 at hq
  refine q_iconst (v := 0) dX13_isLess_87 (by decide) ?_
  refine mv_weak (A := [none, none, none, none]) (by repeat' constructor) ?_
  exact ro_isLess_j88 hG hm hq
def mo_isLess (N : Nat) (x1 : Int32) (x2 : Int32) (S : md_S) : Option (Int32 × md_S) :=
  if md_in x1 100 then
  if md_in x2 100 then
  if (S.2 77 x1.toNatClampNeg) = (S.2 77 x2.toNatClampNeg) then
    if (S.2 77 x1.toNatClampNeg) = 3 then
      if md_in x1 100 then
      if md_in x2 100 then
      if (S.2 78 x2.toNatClampNeg) ≤ (S.2 78 x1.toNatClampNeg) then
        mo_isLess_j88 N 0 S
      else
        mo_isLess_j88 N 1 S
      else none
      else none
    else
      if (S.2 77 x1.toNatClampNeg) = 4 then
        if md_in x1 100 then
        if md_in x1 100 then
        if md_in x2 100 then
        if md_in x2 100 then
        md_b (mo_order N (S.2 78 x1.toNatClampNeg) (S.2 79 x1.toNatClampNeg) (S.2 78 x2.toNatClampNeg) (S.2 79 x2.toNatClampNeg) S) fun v77 S77 =>
        if 0 ≤ v77 then
          mo_isLess_j87 N  S77
        else
          mo_isLess_j88 N 1 S77
        else none
        else none
        else none
        else none
      else
        mo_isLess_j87 N  S
  else
    some (0, S)
  else none
  else none
theorem ro_isLess {l : Launch} {G : mv_G} {B : mv_H} {m N d : Nat} (hG : mv_ok G) (hm : G.2.2.1 ≤ m) {x1 : Int32} {x2 : Int32} {S : md_S} {q : (Int32 × md_S)} (hq : mo_isLess N x1 x2 S = some q) : mv_rq l G mX13_isLess (d + 2) 0 (mv_in [.ref m, .int x1, .int x2] 4) [] (md_H G B m S) (md_Q G B m q) := by
  unfold mo_isLess at hq
  show mv_rq l G mX13_isLess (d + 2) 0 [some (.ref m), some (.int x1), some (.int x2), none] [] (md_H G B m S) _
  refine q_aload_n dX13_isLess_0 rfl ?_
  refine r_geta 77 dX13_isLess_1 fl_RX13_172 (by decide) rfl kk_77 ?_
  refine q_iload_n dX13_isLess_4 rfl ?_
  obtain ⟨g5, hq⟩ := md_g hq
  refine r_iald hG 77 dX13_isLess_5 kk_77 g5 ?_
  refine q_istore_n dX13_isLess_6 (Nat.le_of_ble_eq_true rfl) rfl ?_
  show mv_rq l G mX13_isLess (d + 2) 7 [some (.ref m), some (.int x1), some (.int x2), some (.int (S.2 77 x1.toNatClampNeg))] [] (md_H G B m S) _
  refine q_iload_n dX13_isLess_7 rfl ?_
  refine q_aload_n dX13_isLess_8 rfl ?_
  refine r_geta 77 dX13_isLess_9 fl_RX13_172 (by decide) rfl kk_77 ?_
  refine q_iload_n dX13_isLess_12 rfl ?_
  obtain ⟨g13, hq⟩ := md_g hq
  refine r_iald hG 77 dX13_isLess_13 kk_77 g13 ?_
  refine q_icmp_eq (tgt := 19) dX13_isLess_14 (by decide) (fun c14 => ?_) (fun c14 => ?_)
  ·
    have hq := md_pos c14 hq
    refine q_iload_n dX13_isLess_19 rfl ?_
    refine q_iconst (v := 3) dX13_isLess_20 (by decide) ?_
    refine q_icmp_ne (tgt := 47) dX13_isLess_21 (by decide) (fun c21 => ?_) (fun c21 => ?_)
    ·
      have hq := md_neg c21 hq
      refine q_iload_n dX13_isLess_47 rfl ?_
      refine q_iconst (v := 4) dX13_isLess_48 (by decide) ?_
      refine q_icmp_ne (tgt := 87) dX13_isLess_49 (by decide) (fun c49 => ?_) (fun c49 => ?_)
      ·
        have hq := md_neg c49 hq
        refine mv_weak (A := [none, none, none, none]) (by repeat' constructor) ?_
        exact ro_isLess_j87 hG hm hq
      ·
        have hq := md_pos c49 hq
        refine q_aload_n dX13_isLess_52 rfl ?_
        refine q_aload_n dX13_isLess_53 rfl ?_
        refine r_geta 78 dX13_isLess_54 fl_RX13_175 (by decide) rfl kk_78 ?_
        refine q_iload_n dX13_isLess_57 rfl ?_
        obtain ⟨g58, hq⟩ := md_g hq
        refine r_iald hG 78 dX13_isLess_58 kk_78 g58 ?_
        refine q_aload_n dX13_isLess_59 rfl ?_
        refine r_geta 79 dX13_isLess_60 fl_RX13_178 (by decide) rfl kk_79 ?_
        refine q_iload_n dX13_isLess_63 rfl ?_
        obtain ⟨g64, hq⟩ := md_g hq
        refine r_iald hG 79 dX13_isLess_64 kk_79 g64 ?_
        refine q_aload_n dX13_isLess_65 rfl ?_
        refine r_geta 78 dX13_isLess_66 fl_RX13_175 (by decide) rfl kk_78 ?_
        refine q_iload_n dX13_isLess_69 rfl ?_
        obtain ⟨g70, hq⟩ := md_g hq
        refine r_iald hG 78 dX13_isLess_70 kk_78 g70 ?_
        refine q_aload_n dX13_isLess_71 rfl ?_
        refine r_geta 79 dX13_isLess_72 fl_RX13_178 (by decide) rfl kk_79 ?_
        refine q_iload_n dX13_isLess_75 rfl ?_
        obtain ⟨g76, hq⟩ := md_g hq
        refine r_iald hG 79 dX13_isLess_76 kk_79 g76 ?_
        obtain ⟨v77, S77, e77, hq⟩ := md_b_e hq
        refine q_cV (Y := mX13_order) (As := [.int (S.2 78 x1.toNatClampNeg), .int (S.2 79 x1.toNatClampNeg), .int (S.2 78 x2.toNatClampNeg), .int (S.2 79 x2.toNatClampNeg)]) (st := []) (b := m) (ci := 15) vc_X13_order dX13_isLess_77 ml_RX13_474 rfl md_obj rfl (Nat.le_of_ble_eq_true rfl) rfl (Nat.le_of_ble_eq_true rfl) (ro_order (d := d) hG hm e77) (fun v h1 hq1 => ?_) (fun E h1 hq1 => md_nQ hq1)
        obtain ⟨hv, rfl⟩ := hq1
        cases hv
        show mv_rq l G mX13_isLess (d + 2) 80 [some (.ref m), some (.int x1), some (.int x2), some (.int (S.2 77 x1.toNatClampNeg))] [.int v77] (md_H G B m S77) _
        refine q_if_ge (tgt := 87) dX13_isLess_80 (by decide) (fun c80 => ?_) (fun c80 => ?_)
        ·
          have hq := md_pos c80 hq
          refine mv_weak (A := [none, none, none, none]) (by repeat' constructor) ?_
          exact ro_isLess_j87 hG hm hq
        ·
          have hq := md_neg c80 hq
          refine q_iconst (v := 1) dX13_isLess_83 (by decide) ?_
          refine q_goto (tgt := 88) dX13_isLess_84 (by decide) ?_
          refine mv_weak (A := [none, none, none, none]) (by repeat' constructor) ?_
          exact ro_isLess_j88 hG hm hq
    ·
      have hq := md_pos c21 hq
      refine q_aload_n dX13_isLess_24 rfl ?_
      refine r_geta 78 dX13_isLess_25 fl_RX13_175 (by decide) rfl kk_78 ?_
      refine q_iload_n dX13_isLess_28 rfl ?_
      obtain ⟨g29, hq⟩ := md_g hq
      refine r_iald hG 78 dX13_isLess_29 kk_78 g29 ?_
      refine q_aload_n dX13_isLess_30 rfl ?_
      refine r_geta 78 dX13_isLess_31 fl_RX13_175 (by decide) rfl kk_78 ?_
      refine q_iload_n dX13_isLess_34 rfl ?_
      obtain ⟨g35, hq⟩ := md_g hq
      refine r_iald hG 78 dX13_isLess_35 kk_78 g35 ?_
      refine q_icmp_ge (tgt := 43) dX13_isLess_36 (by decide) (fun c36 => ?_) (fun c36 => ?_)
      ·
        have hq := md_pos c36 hq
        refine q_iconst (v := 0) dX13_isLess_43 (by decide) ?_
        refine q_goto (tgt := 88) dX13_isLess_44 (by decide) ?_
        refine mv_weak (A := [none, none, none, none]) (by repeat' constructor) ?_
        exact ro_isLess_j88 hG hm hq
      ·
        have hq := md_neg c36 hq
        refine q_iconst (v := 1) dX13_isLess_39 (by decide) ?_
        refine q_goto (tgt := 88) dX13_isLess_40 (by decide) ?_
        refine mv_weak (A := [none, none, none, none]) (by repeat' constructor) ?_
        exact ro_isLess_j88 hG hm hq
  ·
    have hq := md_neg c14 hq
    refine q_iconst (v := 0) dX13_isLess_17 (by decide) ?_
    obtain rfl := Option.some.inj hq
    exact q_iret (ty := .boolean) dX13_isLess_18 rfl rfl ⟨rfl, rfl⟩
def mo_compare_j126 (N : Nat) (y0 : Int32) (S : md_S) : Option md_S :=
  md_c (mo_value y0 0 0 S) fun S128 =>
  some S128
theorem ro_compare_j126 {l : Launch} {G : mv_G} {B : mv_H} {m N d : Nat} (hG : mv_ok G) (hm : G.2.2.1 ≤ m) {y0 : Int32} {S : md_S} {q : md_S} (hq : mo_compare_j126 N y0 S = some q) : mv_rq l G mX13_compare (d + 5) 126 [none, none, none, none, none, none] [.int y0, .ref m] (md_H G B m S) (md_V G B m q) := by
  unfold mo_compare_j126 at hq
  refine q_iconst (v := 0) dX13_compare_126 (by decide) ?_
  refine q_iconst (v := 0) dX13_compare_127 (by decide) ?_
  obtain ⟨S128, e128, hq⟩ := md_c_e hq
  refine q_cV (Y := mX13_value) (As := [.int y0, .int 0, .int 0]) (st := []) (b := m) (ci := 15) vc_X13_value dX13_compare_128 ml_RX13_443 rfl md_obj rfl (Nat.le_of_ble_eq_true rfl) rfl (Nat.le_of_ble_eq_true rfl) (ro_value (d := d + 4) hG hm e128) (fun v h1 hq1 => ?_) (fun E h1 hq1 => md_nV hq1)
  obtain ⟨hv, rfl⟩ := hq1
  cases hv
  show mv_rq l G mX13_compare (d + 5) 131 [none, none, none, none, none, none] [] (md_H G B m S128) _
  obtain rfl := Option.some.inj hq
  exact q_vret dX13_compare_131 rfl ⟨rfl, rfl⟩
def mo_compare_j113 (N : Nat) (y0 : Int32) (S : md_S) : Option md_S :=
  if y0 = 0 then
    mo_compare_j126 N 1 S
  else
    mo_compare_j126 N 2 S
theorem ro_compare_j113 {l : Launch} {G : mv_G} {B : mv_H} {m N d : Nat} (hG : mv_ok G) (hm : G.2.2.1 ≤ m) {y0 : Int32} {S : md_S} {q : md_S} (hq : mo_compare_j113 N y0 S = some q) : mv_rq l G mX13_compare (d + 5) 113 [some (.ref m), none, none, none, none, none] [.int y0] (md_H G B m S) (md_V G B m q) := by
  unfold mo_compare_j113 at hq
  refine q_istore dX13_compare_113 (Nat.le_of_ble_eq_true rfl) rfl ?_
  show mv_rq l G mX13_compare (d + 5) 115 [some (.ref m), none, none, none, none, some (.int y0)] [] (md_H G B m S) _
  refine q_aload_n dX13_compare_115 rfl ?_
  refine q_iload dX13_compare_116 rfl ?_
  refine q_if_eq (tgt := 125) dX13_compare_118 (by decide) (fun c118 => ?_) (fun c118 => ?_)
  ·
    have hq := md_pos c118 hq
    refine q_iconst (v := 1) dX13_compare_125 (by decide) ?_
    refine mv_weak (A := [none, none, none, none, none, none]) (by repeat' constructor) ?_
    exact ro_compare_j126 hG hm hq
  ·
    have hq := md_neg c118 hq
    refine q_iconst (v := 2) dX13_compare_121 (by decide) ?_
    refine q_goto (tgt := 126) dX13_compare_122 (by decide) ?_
    refine mv_weak (A := [none, none, none, none, none, none]) (by repeat' constructor) ?_
    exact ro_compare_j126 hG hm hq
def mo_compare_j108 (N : Nat) (S : md_S) : Option md_S :=
  mo_compare_j113 N 1 S
theorem ro_compare_j108 {l : Launch} {G : mv_G} {B : mv_H} {m N d : Nat} (hG : mv_ok G) (hm : G.2.2.1 ≤ m) {S : md_S} {q : md_S} (hq : mo_compare_j108 N  S = some q) : mv_rq l G mX13_compare (d + 5) 108 [some (.ref m), none, none, none, none, none] [] (md_H G B m S) (md_V G B m q) := by
  unfold mo_compare_j108 at hq
  refine q_iconst (v := 1) dX13_compare_108 (by decide) ?_
  refine q_goto (tgt := 113) dX13_compare_109 (by decide) ?_
  refine mv_weak (A := [some (.ref m), none, none, none, none, none]) (by repeat' constructor) ?_
  exact ro_compare_j113 hG hm hq
def mo_compare_j112 (N : Nat) (S : md_S) : Option md_S :=
  mo_compare_j113 N 0 S
theorem ro_compare_j112 {l : Launch} {G : mv_G} {B : mv_H} {m N d : Nat} (hG : mv_ok G) (hm : G.2.2.1 ≤ m) {S : md_S} {q : md_S} (hq : mo_compare_j112 N  S = some q) : mv_rq l G mX13_compare (d + 5) 112 [some (.ref m), none, none, none, none, none] [] (md_H G B m S) (md_V G B m q) := by
  unfold mo_compare_j112 at hq
  refine q_iconst (v := 0) dX13_compare_112 (by decide) ?_
  refine mv_weak (A := [some (.ref m), none, none, none, none, none]) (by repeat' constructor) ?_
  exact ro_compare_j113 hG hm hq
def mo_compare_j81 (N : Nat) (S : md_S) : Option md_S :=
  mo_compare_j113 N 1 S
theorem ro_compare_j81 {l : Launch} {G : mv_G} {B : mv_H} {m N d : Nat} (hG : mv_ok G) (hm : G.2.2.1 ≤ m) {S : md_S} {q : md_S} (hq : mo_compare_j81 N  S = some q) : mv_rq l G mX13_compare (d + 5) 81 [some (.ref m), none, none, none, none, none] [] (md_H G B m S) (md_V G B m q) := by
  unfold mo_compare_j81 at hq
  refine q_iconst (v := 1) dX13_compare_81 (by decide) ?_
  refine q_goto (tgt := 113) dX13_compare_82 (by decide) ?_
  refine mv_weak (A := [some (.ref m), none, none, none, none, none]) (by repeat' constructor) ?_
  exact ro_compare_j113 hG hm hq
def mo_compare_j85 (N : Nat) (S : md_S) : Option md_S :=
  mo_compare_j113 N 0 S
theorem ro_compare_j85 {l : Launch} {G : mv_G} {B : mv_H} {m N d : Nat} (hG : mv_ok G) (hm : G.2.2.1 ≤ m) {S : md_S} {q : md_S} (hq : mo_compare_j85 N  S = some q) : mv_rq l G mX13_compare (d + 5) 85 [some (.ref m), none, none, none, none, none] [] (md_H G B m S) (md_V G B m q) := by
  unfold mo_compare_j85 at hq
  refine q_iconst (v := 0) dX13_compare_85 (by decide) ?_
  refine q_goto (tgt := 113) dX13_compare_86 (by decide) ?_
  refine mv_weak (A := [some (.ref m), none, none, none, none, none]) (by repeat' constructor) ?_
  exact ro_compare_j113 hG hm hq
def mo_compare (N : Nat) (x1 : Int32) (S : md_S) : Option md_S :=
  md_l (md_p S 76 ((S.1 76) - 2)) fun S7 =>
  md_b (mo_isEqual N (S7.1 76) ((S7.1 76) + 1) S7) fun v25 S25 =>
  if x1 = 0 then
    mo_compare_j113 N v25 S25
  else
    if x1 = 1 then
      if v25 = 0 then
        mo_compare_j113 N 1 S25
      else
        mo_compare_j113 N 0 S25
    else
      if 4 ≤ x1 then
        md_b (mo_isLess N ((S7.1 76) + 1) (S7.1 76) S25) fun v92 S92 =>
        if v92 = 0 then
          if x1 = 5 then
            if v25 = 0 then
              mo_compare_j112 N  S92
            else
              mo_compare_j108 N  S92
          else
            mo_compare_j112 N  S92
        else
          mo_compare_j108 N  S92
      else
        md_b (mo_isLess N (S7.1 76) ((S7.1 76) + 1) S25) fun v65 S65 =>
        if v65 = 0 then
          if x1 = 3 then
            if v25 = 0 then
              mo_compare_j85 N  S65
            else
              mo_compare_j81 N  S65
          else
            mo_compare_j85 N  S65
        else
          mo_compare_j81 N  S65
theorem ro_compare {l : Launch} {G : mv_G} {B : mv_H} {m N d : Nat} (hG : mv_ok G) (hm : G.2.2.1 ≤ m) {x1 : Int32} {S : md_S} {q : md_S} (hq : mo_compare N x1 S = some q) : mv_rq l G mX13_compare (d + 5) 0 (mv_in [.ref m, .int x1] 6) [] (md_H G B m S) (md_V G B m q) := by
  unfold mo_compare at hq
  show mv_rq l G mX13_compare (d + 5) 0 [some (.ref m), some (.int x1), none, none, none, none] [] (md_H G B m S) _
  refine q_aload_n dX13_compare_0 rfl ?_
  refine q_dup dX13_compare_1 rfl ?_
  refine r_geti 76 dX13_compare_2 fl_RX13_440 (by decide) rfl ki_76 ?_
  refine q_iconst (v := 2) dX13_compare_5 (by decide) ?_
  refine q_isub dX13_compare_6 ?_
  refine r_puti 76 .int dX13_compare_7 fl_RX13_440 (by decide) rfl ki_76 rfl kp_76 rfl rfl hm (fun S7 e7 => ?_)
  have hq := md_l_e e7 hq
  clear e7
  show mv_rq l G mX13_compare (d + 5) 10 [some (.ref m), some (.int x1), none, none, none, none] [] (md_H G B m S7) _
  refine q_aload_n dX13_compare_10 rfl ?_
  refine r_geti 76 dX13_compare_11 fl_RX13_440 (by decide) rfl ki_76 ?_
  refine q_istore_n dX13_compare_14 (Nat.le_of_ble_eq_true rfl) rfl ?_
  show mv_rq l G mX13_compare (d + 5) 15 [some (.ref m), some (.int x1), some (.int (S7.1 76)), none, none, none] [] (md_H G B m S7) _
  refine q_aload_n dX13_compare_15 rfl ?_
  refine r_geti 76 dX13_compare_16 fl_RX13_440 (by decide) rfl ki_76 ?_
  refine q_iconst (v := 1) dX13_compare_19 (by decide) ?_
  refine q_iadd dX13_compare_20 ?_
  refine q_istore_n dX13_compare_21 (Nat.le_of_ble_eq_true rfl) rfl ?_
  show mv_rq l G mX13_compare (d + 5) 22 [some (.ref m), some (.int x1), some (.int (S7.1 76)), some (.int ((S7.1 76) + 1)), none, none] [] (md_H G B m S7) _
  refine q_aload_n dX13_compare_22 rfl ?_
  refine q_iload_n dX13_compare_23 rfl ?_
  refine q_iload_n dX13_compare_24 rfl ?_
  obtain ⟨v25, S25, e25, hq⟩ := md_b_e hq
  refine q_cV (Y := mX13_isEqual) (As := [.int (S7.1 76), .int ((S7.1 76) + 1)]) (st := []) (b := m) (ci := 15) vc_X13_isEqual dX13_compare_25 ml_RX13_488 rfl md_obj rfl (Nat.le_of_ble_eq_true rfl) rfl (Nat.le_of_ble_eq_true rfl) (ro_isEqual (d := d) hG hm e25) (fun v h1 hq1 => ?_) (fun E h1 hq1 => md_nQ hq1)
  obtain ⟨hv, rfl⟩ := hq1
  cases hv
  show mv_rq l G mX13_compare (d + 5) 28 [some (.ref m), some (.int x1), some (.int (S7.1 76)), some (.int ((S7.1 76) + 1)), none, none] [.int v25] (md_H G B m S25) _
  refine q_istore dX13_compare_28 (Nat.le_of_ble_eq_true rfl) rfl ?_
  show mv_rq l G mX13_compare (d + 5) 30 [some (.ref m), some (.int x1), some (.int (S7.1 76)), some (.int ((S7.1 76) + 1)), some (.int v25), none] [] (md_H G B m S25) _
  refine q_iload_n dX13_compare_30 rfl ?_
  refine q_if_ne (tgt := 39) dX13_compare_31 (by decide) (fun c31 => ?_) (fun c31 => ?_)
  ·
    have hq := md_neg c31 hq
    refine q_iload_n dX13_compare_39 rfl ?_
    refine q_iconst (v := 1) dX13_compare_40 (by decide) ?_
    refine q_icmp_ne (tgt := 57) dX13_compare_41 (by decide) (fun c41 => ?_) (fun c41 => ?_)
    ·
      have hq := md_neg c41 hq
      refine q_iload_n dX13_compare_57 rfl ?_
      refine q_iconst (v := 4) dX13_compare_58 (by decide) ?_
      refine q_icmp_ge (tgt := 89) dX13_compare_59 (by decide) (fun c59 => ?_) (fun c59 => ?_)
      ·
        have hq := md_pos c59 hq
        refine q_aload_n dX13_compare_89 rfl ?_
        refine q_iload_n dX13_compare_90 rfl ?_
        refine q_iload_n dX13_compare_91 rfl ?_
        obtain ⟨v92, S92, e92, hq⟩ := md_b_e hq
        refine q_cV (Y := mX13_isLess) (As := [.int ((S7.1 76) + 1), .int (S7.1 76)]) (st := []) (b := m) (ci := 15) vc_X13_isLess dX13_compare_92 ml_RX13_491 rfl md_obj rfl (Nat.le_of_ble_eq_true rfl) rfl (Nat.le_of_ble_eq_true rfl) (ro_isLess (d := d + 2) hG hm e92) (fun v h1 hq1 => ?_) (fun E h1 hq1 => md_nQ hq1)
        obtain ⟨hv, rfl⟩ := hq1
        cases hv
        show mv_rq l G mX13_compare (d + 5) 95 [some (.ref m), some (.int x1), some (.int (S7.1 76)), some (.int ((S7.1 76) + 1)), some (.int v25), none] [.int v92] (md_H G B m S92) _
        refine q_if_ne (tgt := 108) dX13_compare_95 (by decide) (fun c95 => ?_) (fun c95 => ?_)
        ·
          have hq := md_neg c95 hq
          refine mv_weak (A := [some (.ref m), none, none, none, none, none]) (by repeat' constructor) ?_
          exact ro_compare_j108 hG hm hq
        ·
          have hq := md_pos c95 hq
          refine q_iload_n dX13_compare_98 rfl ?_
          refine q_iconst (v := 5) dX13_compare_99 (by decide) ?_
          refine q_icmp_ne (tgt := 112) dX13_compare_100 (by decide) (fun c100 => ?_) (fun c100 => ?_)
          ·
            have hq := md_neg c100 hq
            refine mv_weak (A := [some (.ref m), none, none, none, none, none]) (by repeat' constructor) ?_
            exact ro_compare_j112 hG hm hq
          ·
            have hq := md_pos c100 hq
            refine q_iload dX13_compare_103 rfl ?_
            refine q_if_eq (tgt := 112) dX13_compare_105 (by decide) (fun c105 => ?_) (fun c105 => ?_)
            ·
              have hq := md_pos c105 hq
              refine mv_weak (A := [some (.ref m), none, none, none, none, none]) (by repeat' constructor) ?_
              exact ro_compare_j112 hG hm hq
            ·
              have hq := md_neg c105 hq
              refine mv_weak (A := [some (.ref m), none, none, none, none, none]) (by repeat' constructor) ?_
              exact ro_compare_j108 hG hm hq
      ·
        have hq := md_neg c59 hq
        refine q_aload_n dX13_compare_62 rfl ?_
        refine q_iload_n dX13_compare_63 rfl ?_
        refine q_iload_n dX13_compare_64 rfl ?_
        obtain ⟨v65, S65, e65, hq⟩ := md_b_e hq
        refine q_cV (Y := mX13_isLess) (As := [.int (S7.1 76), .int ((S7.1 76) + 1)]) (st := []) (b := m) (ci := 15) vc_X13_isLess dX13_compare_65 ml_RX13_491 rfl md_obj rfl (Nat.le_of_ble_eq_true rfl) rfl (Nat.le_of_ble_eq_true rfl) (ro_isLess (d := d + 2) hG hm e65) (fun v h1 hq1 => ?_) (fun E h1 hq1 => md_nQ hq1)
        obtain ⟨hv, rfl⟩ := hq1
        cases hv
        show mv_rq l G mX13_compare (d + 5) 68 [some (.ref m), some (.int x1), some (.int (S7.1 76)), some (.int ((S7.1 76) + 1)), some (.int v25), none] [.int v65] (md_H G B m S65) _
        refine q_if_ne (tgt := 81) dX13_compare_68 (by decide) (fun c68 => ?_) (fun c68 => ?_)
        ·
          have hq := md_neg c68 hq
          refine mv_weak (A := [some (.ref m), none, none, none, none, none]) (by repeat' constructor) ?_
          exact ro_compare_j81 hG hm hq
        ·
          have hq := md_pos c68 hq
          refine q_iload_n dX13_compare_71 rfl ?_
          refine q_iconst (v := 3) dX13_compare_72 (by decide) ?_
          refine q_icmp_ne (tgt := 85) dX13_compare_73 (by decide) (fun c73 => ?_) (fun c73 => ?_)
          ·
            have hq := md_neg c73 hq
            refine mv_weak (A := [some (.ref m), none, none, none, none, none]) (by repeat' constructor) ?_
            exact ro_compare_j85 hG hm hq
          ·
            have hq := md_pos c73 hq
            refine q_iload dX13_compare_76 rfl ?_
            refine q_if_eq (tgt := 85) dX13_compare_78 (by decide) (fun c78 => ?_) (fun c78 => ?_)
            ·
              have hq := md_pos c78 hq
              refine mv_weak (A := [some (.ref m), none, none, none, none, none]) (by repeat' constructor) ?_
              exact ro_compare_j85 hG hm hq
            ·
              have hq := md_neg c78 hq
              refine mv_weak (A := [some (.ref m), none, none, none, none, none]) (by repeat' constructor) ?_
              exact ro_compare_j81 hG hm hq
    ·
      have hq := md_pos c41 hq
      refine q_iload dX13_compare_44 rfl ?_
      refine q_if_ne (tgt := 53) dX13_compare_46 (by decide) (fun c46 => ?_) (fun c46 => ?_)
      ·
        have hq := md_neg c46 hq
        refine q_iconst (v := 0) dX13_compare_53 (by decide) ?_
        refine q_goto (tgt := 113) dX13_compare_54 (by decide) ?_
        refine mv_weak (A := [some (.ref m), none, none, none, none, none]) (by repeat' constructor) ?_
        exact ro_compare_j113 hG hm hq
      ·
        have hq := md_pos c46 hq
        refine q_iconst (v := 1) dX13_compare_49 (by decide) ?_
        refine q_goto (tgt := 113) dX13_compare_50 (by decide) ?_
        refine mv_weak (A := [some (.ref m), none, none, none, none, none]) (by repeat' constructor) ?_
        exact ro_compare_j113 hG hm hq
  ·
    have hq := md_pos c31 hq
    refine q_iload dX13_compare_34 rfl ?_
    refine q_goto (tgt := 113) dX13_compare_36 (by decide) ?_
    refine mv_weak (A := [some (.ref m), none, none, none, none, none]) (by repeat' constructor) ?_
    exact ro_compare_j113 hG hm hq
def mo_found_j27 (y0 : Int32) (S : md_S) : Option (Int32 × md_S) :=
  some (y0, S)
theorem ro_found_j27 {l : Launch} {G : mv_G} {B : mv_H} {m d : Nat} (hG : mv_ok G) (hm : G.2.2.1 ≤ m) {y0 : Int32} {S : md_S} {q : (Int32 × md_S)} (hq : mo_found_j27 y0 S = some q) : mv_rq l G mX13_found d 27 [none, none] [.int y0] (md_H G B m S) (md_Q G B m q) := by
  unfold mo_found_j27 at hq
  obtain rfl := Option.some.inj hq
  exact q_iret (ty := .int) dX13_found_27 rfl rfl ⟨rfl, rfl⟩
def mo_found_j26 (S : md_S) : Option (Int32 × md_S) :=
  mo_found_j27 (-1) S
theorem ro_found_j26 {l : Launch} {G : mv_G} {B : mv_H} {m d : Nat} (hG : mv_ok G) (hm : G.2.2.1 ≤ m) {S : md_S} {q : (Int32 × md_S)} (hq : mo_found_j26  S = some q) : mv_rq l G mX13_found d 26 [none, none] [] (md_H G B m S) (md_Q G B m q) := by
  unfold mo_found_j26 at hq
  refine q_iconst (v := (-1)) dX13_found_26 (by decide) ?_
  refine mv_weak (A := [none, none]) (by repeat' constructor) ?_
  exact ro_found_j27 hG hm hq
def mo_found (x1 : Int32) (S : md_S) : Option (Int32 × md_S) :=
  md_l (md_p S 0 0) fun S2 =>
  if x1 < 0 then
    mo_found_j26  S2
  else
    if (S2.1 82) ≤ x1 then
      mo_found_j26  S2
    else
      if md_in x1 300 then
      mo_found_j27 (S2.2 83 x1.toNatClampNeg) S2
      else none
theorem ro_found {l : Launch} {G : mv_G} {B : mv_H} {m d : Nat} (hG : mv_ok G) (hm : G.2.2.1 ≤ m) {x1 : Int32} {S : md_S} {q : (Int32 × md_S)} (hq : mo_found x1 S = some q) : mv_rq l G mX13_found d 0 (mv_in [.ref m, .int x1] 2) [] (md_H G B m S) (md_Q G B m q) := by
  unfold mo_found at hq
  show mv_rq l G mX13_found d 0 [some (.ref m), some (.int x1)] [] (md_H G B m S) _
  refine q_aload_n dX13_found_0 rfl ?_
  refine q_iconst (v := 0) dX13_found_1 (by decide) ?_
  refine r_puti 0 .int dX13_found_2 fl_RX13_193 (by decide) rfl ki_0 rfl kp_0 rfl rfl hm (fun S2 e2 => ?_)
  have hq := md_l_e e2 hq
  clear e2
  show mv_rq l G mX13_found d 5 [some (.ref m), some (.int x1)] [] (md_H G B m S2) _
  refine q_iload_n dX13_found_5 rfl ?_
  refine q_if_lt (tgt := 26) dX13_found_6 (by decide) (fun c6 => ?_) (fun c6 => ?_)
  ·
    have hq := md_pos c6 hq
    refine mv_weak (A := [none, none]) (by repeat' constructor) ?_
    exact ro_found_j26 hG hm hq
  ·
    have hq := md_neg c6 hq
    refine q_iload_n dX13_found_9 rfl ?_
    refine q_aload_n dX13_found_10 rfl ?_
    refine r_geti 82 dX13_found_11 fl_RX13_304 (by decide) rfl ki_82 ?_
    refine q_icmp_ge (tgt := 26) dX13_found_14 (by decide) (fun c14 => ?_) (fun c14 => ?_)
    ·
      have hq := md_pos c14 hq
      refine mv_weak (A := [none, none]) (by repeat' constructor) ?_
      exact ro_found_j26 hG hm hq
    ·
      have hq := md_neg c14 hq
      refine q_aload_n dX13_found_17 rfl ?_
      refine r_geta 83 dX13_found_18 fl_RX13_187 (by decide) rfl kk_83 ?_
      refine q_iload_n dX13_found_21 rfl ?_
      obtain ⟨g22, hq⟩ := md_g hq
      refine r_iald hG 83 dX13_found_22 kk_83 g22 ?_
      refine q_goto (tgt := 27) dX13_found_23 (by decide) ?_
      refine mv_weak (A := [none, none]) (by repeat' constructor) ?_
      exact ro_found_j27 hG hm hq
def mo_isNode_j22 (y0 : Int32) (S : md_S) : Option (Int32 × md_S) :=
  if md_bo y0 then
  some (y0, S)
  else none
theorem ro_isNode_j22 {l : Launch} {G : mv_G} {B : mv_H} {m d : Nat} (hG : mv_ok G) (hm : G.2.2.1 ≤ m) {y0 : Int32} {S : md_S} {q : (Int32 × md_S)} (hq : mo_isNode_j22 y0 S = some q) : mv_rq l G mX13_isNode d 22 [none, none] [.int y0] (md_H G B m S) (md_Q G B m q) := by
  unfold mo_isNode_j22 at hq
  obtain ⟨g22, hq⟩ := md_g hq
  obtain rfl := Option.some.inj hq
  exact q_iret (ty := .boolean) dX13_isNode_22 rfl (md_bnar g22) ⟨rfl, rfl⟩
def mo_isNode_j21 (S : md_S) : Option (Int32 × md_S) :=
  mo_isNode_j22 0 S
theorem ro_isNode_j21 {l : Launch} {G : mv_G} {B : mv_H} {m d : Nat} (hG : mv_ok G) (hm : G.2.2.1 ≤ m) {S : md_S} {q : (Int32 × md_S)} (hq : mo_isNode_j21  S = some q) : mv_rq l G mX13_isNode d 21 [none, none] [] (md_H G B m S) (md_Q G B m q) := by
  unfold mo_isNode_j21 at hq
  refine q_iconst (v := 0) dX13_isNode_21 (by decide) ?_
  refine mv_weak (A := [none, none]) (by repeat' constructor) ?_
  exact ro_isNode_j22 hG hm hq
def mo_isNode (x1 : Int32) (S : md_S) : Option (Int32 × md_S) :=
  md_l (md_p S 0 0) fun S2 =>
  if x1 < 0 then
    mo_isNode_j21  S2
  else
    if (S2.1 10) ≤ x1 then
      mo_isNode_j21  S2
    else
      mo_isNode_j22 1 S2
theorem ro_isNode {l : Launch} {G : mv_G} {B : mv_H} {m d : Nat} (hG : mv_ok G) (hm : G.2.2.1 ≤ m) {x1 : Int32} {S : md_S} {q : (Int32 × md_S)} (hq : mo_isNode x1 S = some q) : mv_rq l G mX13_isNode d 0 (mv_in [.ref m, .int x1] 2) [] (md_H G B m S) (md_Q G B m q) := by
  unfold mo_isNode at hq
  show mv_rq l G mX13_isNode d 0 [some (.ref m), some (.int x1)] [] (md_H G B m S) _
  refine q_aload_n dX13_isNode_0 rfl ?_
  refine q_iconst (v := 0) dX13_isNode_1 (by decide) ?_
  refine r_puti 0 .int dX13_isNode_2 fl_RX13_193 (by decide) rfl ki_0 rfl kp_0 rfl rfl hm (fun S2 e2 => ?_)
  have hq := md_l_e e2 hq
  clear e2
  show mv_rq l G mX13_isNode d 5 [some (.ref m), some (.int x1)] [] (md_H G B m S2) _
  refine q_iload_n dX13_isNode_5 rfl ?_
  refine q_if_lt (tgt := 21) dX13_isNode_6 (by decide) (fun c6 => ?_) (fun c6 => ?_)
  ·
    have hq := md_pos c6 hq
    refine mv_weak (A := [none, none]) (by repeat' constructor) ?_
    exact ro_isNode_j21 hG hm hq
  ·
    have hq := md_neg c6 hq
    refine q_iload_n dX13_isNode_9 rfl ?_
    refine q_aload_n dX13_isNode_10 rfl ?_
    refine r_geti 10 dX13_isNode_11 fl_RX13_238 (by decide) rfl ki_10 ?_
    refine q_icmp_ge (tgt := 21) dX13_isNode_14 (by decide) (fun c14 => ?_) (fun c14 => ?_)
    ·
      have hq := md_pos c14 hq
      refine mv_weak (A := [none, none]) (by repeat' constructor) ?_
      exact ro_isNode_j21 hG hm hq
    ·
      have hq := md_neg c14 hq
      refine q_iconst (v := 1) dX13_isNode_17 (by decide) ?_
      refine q_goto (tgt := 22) dX13_isNode_18 (by decide) ?_
      refine mv_weak (A := [none, none]) (by repeat' constructor) ?_
      exact ro_isNode_j22 hG hm hq
def mo_kind_j18 (y0 : Int32) (S : md_S) : Option (Int32 × md_S) :=
  some (y0, S)
theorem ro_kind_j18 {l : Launch} {G : mv_G} {B : mv_H} {m d : Nat} (hG : mv_ok G) (hm : G.2.2.1 ≤ m) {y0 : Int32} {S : md_S} {q : (Int32 × md_S)} (hq : mo_kind_j18 y0 S = some q) : mv_rq l G mX13_kind (d + 1) 18 [none, none] [.int y0] (md_H G B m S) (md_Q G B m q) := by
  unfold mo_kind_j18 at hq
  obtain rfl := Option.some.inj hq
  exact q_iret (ty := .int) dX13_kind_18 rfl rfl ⟨rfl, rfl⟩
def mo_kind (x1 : Int32) (S : md_S) : Option (Int32 × md_S) :=
  md_b (mo_isNode x1 S) fun v2 S2 =>
  if v2 = 0 then
    mo_kind_j18 (-1) S2
  else
    if md_in x1 41 then
    mo_kind_j18 (S2.2 12 x1.toNatClampNeg) S2
    else none
theorem ro_kind {l : Launch} {G : mv_G} {B : mv_H} {m d : Nat} (hG : mv_ok G) (hm : G.2.2.1 ≤ m) {x1 : Int32} {S : md_S} {q : (Int32 × md_S)} (hq : mo_kind x1 S = some q) : mv_rq l G mX13_kind (d + 1) 0 (mv_in [.ref m, .int x1] 2) [] (md_H G B m S) (md_Q G B m q) := by
  unfold mo_kind at hq
  show mv_rq l G mX13_kind (d + 1) 0 [some (.ref m), some (.int x1)] [] (md_H G B m S) _
  refine q_aload_n dX13_kind_0 rfl ?_
  refine q_iload_n dX13_kind_1 rfl ?_
  obtain ⟨v2, S2, e2, hq⟩ := md_b_e hq
  refine q_cV (Y := mX13_isNode) (As := [.int x1]) (st := []) (b := m) (ci := 15) vc_X13_isNode dX13_kind_2 ml_RX13_512 rfl md_obj rfl (Nat.le_of_ble_eq_true rfl) rfl (Nat.le_of_ble_eq_true rfl) (ro_isNode (d := d) hG hm e2) (fun v h1 hq1 => ?_) (fun E h1 hq1 => md_nQ hq1)
  obtain ⟨hv, rfl⟩ := hq1
  cases hv
  show mv_rq l G mX13_kind (d + 1) 5 [some (.ref m), some (.int x1)] [.int v2] (md_H G B m S2) _
  refine q_if_eq (tgt := 17) dX13_kind_5 (by decide) (fun c5 => ?_) (fun c5 => ?_)
  ·
    have hq := md_pos c5 hq
    refine q_iconst (v := (-1)) dX13_kind_17 (by decide) ?_
    refine mv_weak (A := [none, none]) (by repeat' constructor) ?_
    exact ro_kind_j18 hG hm hq
  ·
    have hq := md_neg c5 hq
    refine q_aload_n dX13_kind_8 rfl ?_
    refine r_geta 12 dX13_kind_9 fl_RX13_23 (by decide) rfl kk_12 ?_
    refine q_iload_n dX13_kind_12 rfl ?_
    obtain ⟨g13, hq⟩ := md_g hq
    refine r_iald hG 12 dX13_kind_13 kk_12 g13 ?_
    refine q_goto (tgt := 18) dX13_kind_14 (by decide) ?_
    refine mv_weak (A := [none, none]) (by repeat' constructor) ?_
    exact ro_kind_j18 hG hm hq
def mo_size_j44 (N : Nat) (y0 : Int32) (S : md_S) : Option (Int32 × md_S) :=
  some (y0, S)
theorem ro_size_j44 {l : Launch} {G : mv_G} {B : mv_H} {m N d : Nat} (hG : mv_ok G) (hm : G.2.2.1 ≤ m) {y0 : Int32} {S : md_S} {q : (Int32 × md_S)} (hq : mo_size_j44 N y0 S = some q) : mv_rq l G mX13_size (d + 1) 44 [none, none] [.int y0] (md_H G B m S) (md_Q G B m q) := by
  unfold mo_size_j44 at hq
  obtain rfl := Option.some.inj hq
  exact q_iret (ty := .int) dX13_size_44 rfl rfl ⟨rfl, rfl⟩
def mo_size_j30 (N : Nat) (x1 : Int32) (S : md_S) : Option (Int32 × md_S) :=
  if md_in x1 41 then
  mo_size_j44 N (S.2 17 x1.toNatClampNeg) S
  else none
theorem ro_size_j30 {l : Launch} {G : mv_G} {B : mv_H} {m N d : Nat} (hG : mv_ok G) (hm : G.2.2.1 ≤ m) {x1 : Int32} {S : md_S} {q : (Int32 × md_S)} (hq : mo_size_j30 N x1 S = some q) : mv_rq l G mX13_size (d + 1) 30 [some (.ref m), some (.int x1)] [] (md_H G B m S) (md_Q G B m q) := by
  unfold mo_size_j30 at hq
  refine q_aload_n dX13_size_30 rfl ?_
  refine r_geta 17 dX13_size_31 fl_RX13_39 (by decide) rfl kk_17 ?_
  refine q_iload_n dX13_size_34 rfl ?_
  obtain ⟨g35, hq⟩ := md_g hq
  refine r_iald hG 17 dX13_size_35 kk_17 g35 ?_
  refine q_goto (tgt := 44) dX13_size_36 (by decide) ?_
  refine mv_weak (A := [none, none]) (by repeat' constructor) ?_
  exact ro_size_j44 hG hm hq
def mo_size (N : Nat) (x1 : Int32) (S : md_S) : Option (Int32 × md_S) :=
  md_b (mo_isNode x1 S) fun v2 S2 =>
  if v2 = 0 then
    some (0, S2)
  else
    if md_in x1 41 then
    if (S2.2 12 x1.toNatClampNeg) = 3 then
      mo_size_j30 N x1 S2
    else
      if md_in x1 41 then
      if (S2.2 12 x1.toNatClampNeg) = 4 then
        mo_size_j30 N x1 S2
      else
        md_b (mo_children N x1 S2) fun v41 S41 =>
        mo_size_j44 N v41 S41
      else none
    else none
theorem ro_size {l : Launch} {G : mv_G} {B : mv_H} {m N d : Nat} (hG : mv_ok G) (hm : G.2.2.1 ≤ m) {x1 : Int32} {S : md_S} {q : (Int32 × md_S)} (hq : mo_size N x1 S = some q) : mv_rq l G mX13_size (d + 1) 0 (mv_in [.ref m, .int x1] 2) [] (md_H G B m S) (md_Q G B m q) := by
  unfold mo_size at hq
  show mv_rq l G mX13_size (d + 1) 0 [some (.ref m), some (.int x1)] [] (md_H G B m S) _
  refine q_aload_n dX13_size_0 rfl ?_
  refine q_iload_n dX13_size_1 rfl ?_
  obtain ⟨v2, S2, e2, hq⟩ := md_b_e hq
  refine q_cV (Y := mX13_isNode) (As := [.int x1]) (st := []) (b := m) (ci := 15) vc_X13_isNode dX13_size_2 ml_RX13_512 rfl md_obj rfl (Nat.le_of_ble_eq_true rfl) rfl (Nat.le_of_ble_eq_true rfl) (ro_isNode (d := d) hG hm e2) (fun v h1 hq1 => ?_) (fun E h1 hq1 => md_nQ hq1)
  obtain ⟨hv, rfl⟩ := hq1
  cases hv
  show mv_rq l G mX13_size (d + 1) 5 [some (.ref m), some (.int x1)] [.int v2] (md_H G B m S2) _
  refine q_if_ne (tgt := 10) dX13_size_5 (by decide) (fun c5 => ?_) (fun c5 => ?_)
  ·
    have hq := md_neg c5 hq
    refine q_aload_n dX13_size_10 rfl ?_
    refine r_geta 12 dX13_size_11 fl_RX13_23 (by decide) rfl kk_12 ?_
    refine q_iload_n dX13_size_14 rfl ?_
    obtain ⟨g15, hq⟩ := md_g hq
    refine r_iald hG 12 dX13_size_15 kk_12 g15 ?_
    refine q_iconst (v := 3) dX13_size_16 (by decide) ?_
    refine q_icmp_eq (tgt := 30) dX13_size_17 (by decide) (fun c17 => ?_) (fun c17 => ?_)
    ·
      have hq := md_pos c17 hq
      refine mv_weak (A := [some (.ref m), some (.int x1)]) (by repeat' constructor) ?_
      exact ro_size_j30 hG hm hq
    ·
      have hq := md_neg c17 hq
      refine q_aload_n dX13_size_20 rfl ?_
      refine r_geta 12 dX13_size_21 fl_RX13_23 (by decide) rfl kk_12 ?_
      refine q_iload_n dX13_size_24 rfl ?_
      obtain ⟨g25, hq⟩ := md_g hq
      refine r_iald hG 12 dX13_size_25 kk_12 g25 ?_
      refine q_iconst (v := 4) dX13_size_26 (by decide) ?_
      refine q_icmp_ne (tgt := 39) dX13_size_27 (by decide) (fun c27 => ?_) (fun c27 => ?_)
      ·
        have hq := md_neg c27 hq
        refine q_aload_n dX13_size_39 rfl ?_
        refine q_iload_n dX13_size_40 rfl ?_
        obtain ⟨v41, S41, e41, hq⟩ := md_b_e hq
        refine q_cV (Y := mX13_children) (As := [.int x1]) (st := []) (b := m) (ci := 15) vc_X13_children dX13_size_41 ml_RX13_428 rfl md_obj rfl (Nat.le_of_ble_eq_true rfl) rfl (Nat.le_of_ble_eq_true rfl) (ro_children (d := d) hG hm e41) (fun v h1 hq1 => ?_) (fun E h1 hq1 => md_nQ hq1)
        obtain ⟨hv, rfl⟩ := hq1
        cases hv
        show mv_rq l G mX13_size (d + 1) 44 [some (.ref m), some (.int x1)] [.int v41] (md_H G B m S41) _
        refine mv_weak (A := [none, none]) (by repeat' constructor) ?_
        exact ro_size_j44 hG hm hq
      ·
        have hq := md_pos c27 hq
        refine mv_weak (A := [some (.ref m), some (.int x1)]) (by repeat' constructor) ?_
        exact ro_size_j30 hG hm hq
  ·
    have hq := md_pos c5 hq
    refine q_iconst (v := 0) dX13_size_8 (by decide) ?_
    obtain rfl := Option.some.inj hq
    exact q_iret (ty := .int) dX13_size_9 rfl rfl ⟨rfl, rfl⟩
def mo_character_j51 (y0 : Int32) (S : md_S) : Option (Int32 × md_S) :=
  some (y0, S)
theorem ro_character_j51 {l : Launch} {G : mv_G} {B : mv_H} {m d : Nat} (hG : mv_ok G) (hm : G.2.2.1 ≤ m) {y0 : Int32} {S : md_S} {q : (Int32 × md_S)} (hq : mo_character_j51 y0 S = some q) : mv_rq l G mX13_character (d + 1) 51 [none, none, none] [.int y0] (md_H G B m S) (md_Q G B m q) := by
  unfold mo_character_j51 at hq
  obtain rfl := Option.some.inj hq
  exact q_iret (ty := .int) dX13_character_51 rfl rfl ⟨rfl, rfl⟩
def mo_character_j50 (S : md_S) : Option (Int32 × md_S) :=
  mo_character_j51 0 S
theorem ro_character_j50 {l : Launch} {G : mv_G} {B : mv_H} {m d : Nat} (hG : mv_ok G) (hm : G.2.2.1 ≤ m) {S : md_S} {q : (Int32 × md_S)} (hq : mo_character_j50  S = some q) : mv_rq l G mX13_character (d + 1) 50 [none, none, none] [] (md_H G B m S) (md_Q G B m q) := by
  unfold mo_character_j50 at hq
  refine q_iconst (v := 0) dX13_character_50 (by decide) ?_
  refine mv_weak (A := [none, none, none]) (by repeat' constructor) ?_
  exact ro_character_j51 hG hm hq
def mo_character (x1 : Int32) (x2 : Int32) (S : md_S) : Option (Int32 × md_S) :=
  md_b (mo_isNode x1 S) fun v2 S2 =>
  if v2 = 0 then
    mo_character_j50  S2
  else
    if md_in x1 41 then
    if (S2.2 12 x1.toNatClampNeg) = 4 then
      if x2 < 0 then
        mo_character_j50  S2
      else
        if md_in x1 41 then
        if (S2.2 17 x1.toNatClampNeg) ≤ x2 then
          mo_character_j50  S2
        else
          if md_in x1 41 then
          if md_in (((S2.2 15 x1.toNatClampNeg) + 1) + x2) 160 then
          mo_character_j51 (S2.2 11 (((S2.2 15 x1.toNatClampNeg) + 1) + x2).toNatClampNeg) S2
          else none
          else none
        else none
    else
      mo_character_j50  S2
    else none
theorem ro_character {l : Launch} {G : mv_G} {B : mv_H} {m d : Nat} (hG : mv_ok G) (hm : G.2.2.1 ≤ m) {x1 : Int32} {x2 : Int32} {S : md_S} {q : (Int32 × md_S)} (hq : mo_character x1 x2 S = some q) : mv_rq l G mX13_character (d + 1) 0 (mv_in [.ref m, .int x1, .int x2] 3) [] (md_H G B m S) (md_Q G B m q) := by
  unfold mo_character at hq
  show mv_rq l G mX13_character (d + 1) 0 [some (.ref m), some (.int x1), some (.int x2)] [] (md_H G B m S) _
  refine q_aload_n dX13_character_0 rfl ?_
  refine q_iload_n dX13_character_1 rfl ?_
  obtain ⟨v2, S2, e2, hq⟩ := md_b_e hq
  refine q_cV (Y := mX13_isNode) (As := [.int x1]) (st := []) (b := m) (ci := 15) vc_X13_isNode dX13_character_2 ml_RX13_512 rfl md_obj rfl (Nat.le_of_ble_eq_true rfl) rfl (Nat.le_of_ble_eq_true rfl) (ro_isNode (d := d) hG hm e2) (fun v h1 hq1 => ?_) (fun E h1 hq1 => md_nQ hq1)
  obtain ⟨hv, rfl⟩ := hq1
  cases hv
  show mv_rq l G mX13_character (d + 1) 5 [some (.ref m), some (.int x1), some (.int x2)] [.int v2] (md_H G B m S2) _
  refine q_if_eq (tgt := 50) dX13_character_5 (by decide) (fun c5 => ?_) (fun c5 => ?_)
  ·
    have hq := md_pos c5 hq
    refine mv_weak (A := [none, none, none]) (by repeat' constructor) ?_
    exact ro_character_j50 hG hm hq
  ·
    have hq := md_neg c5 hq
    refine q_aload_n dX13_character_8 rfl ?_
    refine r_geta 12 dX13_character_9 fl_RX13_23 (by decide) rfl kk_12 ?_
    refine q_iload_n dX13_character_12 rfl ?_
    obtain ⟨g13, hq⟩ := md_g hq
    refine r_iald hG 12 dX13_character_13 kk_12 g13 ?_
    refine q_iconst (v := 4) dX13_character_14 (by decide) ?_
    refine q_icmp_ne (tgt := 50) dX13_character_15 (by decide) (fun c15 => ?_) (fun c15 => ?_)
    ·
      have hq := md_neg c15 hq
      refine mv_weak (A := [none, none, none]) (by repeat' constructor) ?_
      exact ro_character_j50 hG hm hq
    ·
      have hq := md_pos c15 hq
      refine q_iload_n dX13_character_18 rfl ?_
      refine q_if_lt (tgt := 50) dX13_character_19 (by decide) (fun c19 => ?_) (fun c19 => ?_)
      ·
        have hq := md_pos c19 hq
        refine mv_weak (A := [none, none, none]) (by repeat' constructor) ?_
        exact ro_character_j50 hG hm hq
      ·
        have hq := md_neg c19 hq
        refine q_iload_n dX13_character_22 rfl ?_
        refine q_aload_n dX13_character_23 rfl ?_
        refine r_geta 17 dX13_character_24 fl_RX13_39 (by decide) rfl kk_17 ?_
        refine q_iload_n dX13_character_27 rfl ?_
        obtain ⟨g28, hq⟩ := md_g hq
        refine r_iald hG 17 dX13_character_28 kk_17 g28 ?_
        refine q_icmp_ge (tgt := 50) dX13_character_29 (by decide) (fun c29 => ?_) (fun c29 => ?_)
        ·
          have hq := md_pos c29 hq
          refine mv_weak (A := [none, none, none]) (by repeat' constructor) ?_
          exact ro_character_j50 hG hm hq
        ·
          have hq := md_neg c29 hq
          refine q_aload_n dX13_character_32 rfl ?_
          refine r_geta 11 dX13_character_33 fl_RX13_20 (by decide) rfl kk_11 ?_
          refine q_aload_n dX13_character_36 rfl ?_
          refine r_geta 15 dX13_character_37 fl_RX13_33 (by decide) rfl kk_15 ?_
          refine q_iload_n dX13_character_40 rfl ?_
          obtain ⟨g41, hq⟩ := md_g hq
          refine r_iald hG 15 dX13_character_41 kk_15 g41 ?_
          refine q_iconst (v := 1) dX13_character_42 (by decide) ?_
          refine q_iadd dX13_character_43 ?_
          refine q_iload_n dX13_character_44 rfl ?_
          refine q_iadd dX13_character_45 ?_
          obtain ⟨g46, hq⟩ := md_g hq
          refine r_bald hG 11 dX13_character_46 kk_11 g46 ?_
          refine q_goto (tgt := 51) dX13_character_47 (by decide) ?_
          refine mv_weak (A := [none, none, none]) (by repeat' constructor) ?_
          exact ro_character_j51 hG hm hq
def mo_outer_j18 (y0 : Int32) (S : md_S) : Option (Int32 × md_S) :=
  some (y0, S)
theorem ro_outer_j18 {l : Launch} {G : mv_G} {B : mv_H} {m d : Nat} (hG : mv_ok G) (hm : G.2.2.1 ≤ m) {y0 : Int32} {S : md_S} {q : (Int32 × md_S)} (hq : mo_outer_j18 y0 S = some q) : mv_rq l G mX13_outer (d + 1) 18 [none, none] [.int y0] (md_H G B m S) (md_Q G B m q) := by
  unfold mo_outer_j18 at hq
  obtain rfl := Option.some.inj hq
  exact q_iret (ty := .int) dX13_outer_18 rfl rfl ⟨rfl, rfl⟩
def mo_outer (x1 : Int32) (S : md_S) : Option (Int32 × md_S) :=
  md_b (mo_isNode x1 S) fun v2 S2 =>
  if v2 = 0 then
    mo_outer_j18 (-1) S2
  else
    if md_in x1 41 then
    mo_outer_j18 (S2.2 13 x1.toNatClampNeg) S2
    else none
theorem ro_outer {l : Launch} {G : mv_G} {B : mv_H} {m d : Nat} (hG : mv_ok G) (hm : G.2.2.1 ≤ m) {x1 : Int32} {S : md_S} {q : (Int32 × md_S)} (hq : mo_outer x1 S = some q) : mv_rq l G mX13_outer (d + 1) 0 (mv_in [.ref m, .int x1] 2) [] (md_H G B m S) (md_Q G B m q) := by
  unfold mo_outer at hq
  show mv_rq l G mX13_outer (d + 1) 0 [some (.ref m), some (.int x1)] [] (md_H G B m S) _
  refine q_aload_n dX13_outer_0 rfl ?_
  refine q_iload_n dX13_outer_1 rfl ?_
  obtain ⟨v2, S2, e2, hq⟩ := md_b_e hq
  refine q_cV (Y := mX13_isNode) (As := [.int x1]) (st := []) (b := m) (ci := 15) vc_X13_isNode dX13_outer_2 ml_RX13_512 rfl md_obj rfl (Nat.le_of_ble_eq_true rfl) rfl (Nat.le_of_ble_eq_true rfl) (ro_isNode (d := d) hG hm e2) (fun v h1 hq1 => ?_) (fun E h1 hq1 => md_nQ hq1)
  obtain ⟨hv, rfl⟩ := hq1
  cases hv
  show mv_rq l G mX13_outer (d + 1) 5 [some (.ref m), some (.int x1)] [.int v2] (md_H G B m S2) _
  refine q_if_eq (tgt := 17) dX13_outer_5 (by decide) (fun c5 => ?_) (fun c5 => ?_)
  ·
    have hq := md_pos c5 hq
    refine q_iconst (v := (-1)) dX13_outer_17 (by decide) ?_
    refine mv_weak (A := [none, none]) (by repeat' constructor) ?_
    exact ro_outer_j18 hG hm hq
  ·
    have hq := md_neg c5 hq
    refine q_aload_n dX13_outer_8 rfl ?_
    refine r_geta 13 dX13_outer_9 fl_RX13_27 (by decide) rfl kk_13 ?_
    refine q_iload_n dX13_outer_12 rfl ?_
    obtain ⟨g13, hq⟩ := md_g hq
    refine r_iald hG 13 dX13_outer_13 kk_13 g13 ?_
    refine q_goto (tgt := 18) dX13_outer_14 (by decide) ?_
    refine mv_weak (A := [none, none]) (by repeat' constructor) ?_
    exact ro_outer_j18 hG hm hq
def mo_tell (x1 : Int32) (S : md_S) : Option md_S :=
  if md_in (S.1 84) 400 then
  md_l (md_w S 85 (S.1 84).toNatClampNeg (vp_nar .byte x1.toInt8.toInt32)) fun S10 =>
  md_l (md_p S10 84 ((S10.1 84) + 1)) fun S18 =>
  some S18
  else none
theorem ro_tell {l : Launch} {G : mv_G} {B : mv_H} {m d : Nat} (hG : mv_ok G) (hm : G.2.2.1 ≤ m) {x1 : Int32} {S : md_S} {q : md_S} (hq : mo_tell x1 S = some q) : mv_rq l G mX13_tell d 0 (mv_in [.ref m, .int x1] 2) [] (md_H G B m S) (md_V G B m q) := by
  unfold mo_tell at hq
  show mv_rq l G mX13_tell d 0 [some (.ref m), some (.int x1)] [] (md_H G B m S) _
  refine q_aload_n dX13_tell_0 rfl ?_
  refine r_geta 85 dX13_tell_1 fl_RX13_190 (by decide) rfl kk_85 ?_
  refine q_aload_n dX13_tell_4 rfl ?_
  refine r_geti 84 dX13_tell_5 fl_RX13_515 (by decide) rfl ki_84 ?_
  refine q_iload_n dX13_tell_8 rfl ?_
  refine q_i2b dX13_tell_9 ?_
  obtain ⟨g10, hq⟩ := md_g hq
  refine r_bast hG hm 85 dX13_tell_10 kk_85 g10 (fun S10 e10 => ?_)
  have hq := md_l_e e10 hq
  clear e10
  show mv_rq l G mX13_tell d 11 [some (.ref m), some (.int x1)] [] (md_H G B m S10) _
  refine q_aload_n dX13_tell_11 rfl ?_
  refine q_dup dX13_tell_12 rfl ?_
  refine r_geti 84 dX13_tell_13 fl_RX13_515 (by decide) rfl ki_84 ?_
  refine q_iconst (v := 1) dX13_tell_16 (by decide) ?_
  refine q_iadd dX13_tell_17 ?_
  refine r_puti 84 .int dX13_tell_18 fl_RX13_515 (by decide) rfl ki_84 rfl kp_84 rfl rfl hm (fun S18 e18 => ?_)
  have hq := md_l_e e18 hq
  clear e18
  show mv_rq l G mX13_tell d 21 [some (.ref m), some (.int x1)] [] (md_H G B m S18) _
  obtain rfl := Option.some.inj hq
  exact q_vret dX13_tell_21 rfl ⟨rfl, rfl⟩
def mo_tellStep_j145 (N : Nat) (S : md_S) : Option md_S :=
  md_c (mo_tell 93 S) fun S148 =>
  some S148
theorem ro_tellStep_j145 {l : Launch} {G : mv_G} {B : mv_H} {m N d : Nat} (hG : mv_ok G) (hm : G.2.2.1 ≤ m) {S : md_S} {q : md_S} (hq : mo_tellStep_j145 N  S = some q) : mv_rq l G mX13_tellStep (d + 1) 145 [some (.ref m), none, none, none] [] (md_H G B m S) (md_V G B m q) := by
  unfold mo_tellStep_j145 at hq
  refine q_aload_n dX13_tellStep_145 rfl ?_
  refine q_bipush (v := 93) dX13_tellStep_146 (by decide) ?_
  obtain ⟨S148, e148, hq⟩ := md_c_e hq
  refine q_cV (Y := mX13_tell) (As := [.int 93]) (st := []) (b := m) (ci := 15) vc_X13_tell dX13_tellStep_148 ml_RX13_518 rfl md_obj rfl (Nat.le_of_ble_eq_true rfl) rfl (Nat.le_of_ble_eq_true rfl) (ro_tell (d := d) hG hm e148) (fun v h1 hq1 => ?_) (fun E h1 hq1 => md_nV hq1)
  obtain ⟨hv, rfl⟩ := hq1
  cases hv
  show mv_rq l G mX13_tellStep (d + 1) 151 [some (.ref m), none, none, none] [] (md_H G B m S148) _
  obtain rfl := Option.some.inj hq
  exact q_vret dX13_tellStep_151 rfl ⟨rfl, rfl⟩
def mo_tellStep_j134 (N : Nat) (x2 : Int32) (S : md_S) : Option md_S :=
  md_c (mo_tell (48 + (x2 - x2 / 10 * 10)) S) fun S142 =>
  mo_tellStep_j145 N  S142
theorem ro_tellStep_j134 {l : Launch} {G : mv_G} {B : mv_H} {m N d : Nat} (hG : mv_ok G) (hm : G.2.2.1 ≤ m) {x2 : Int32} {S : md_S} {q : md_S} (hq : mo_tellStep_j134 N x2 S = some q) : mv_rq l G mX13_tellStep (d + 1) 134 [some (.ref m), none, some (.int x2), none] [] (md_H G B m S) (md_V G B m q) := by
  unfold mo_tellStep_j134 at hq
  refine q_aload_n dX13_tellStep_134 rfl ?_
  refine q_bipush (v := 48) dX13_tellStep_135 (by decide) ?_
  refine q_iload_n dX13_tellStep_137 rfl ?_
  refine q_bipush (v := 10) dX13_tellStep_138 (by decide) ?_
  refine q_irem dX13_tellStep_140 (by decide) ?_
  refine q_iadd dX13_tellStep_141 ?_
  obtain ⟨S142, e142, hq⟩ := md_c_e hq
  refine q_cV (Y := mX13_tell) (As := [.int (48 + (x2 - x2 / 10 * 10))]) (st := []) (b := m) (ci := 15) vc_X13_tell dX13_tellStep_142 ml_RX13_518 rfl md_obj rfl (Nat.le_of_ble_eq_true rfl) rfl (Nat.le_of_ble_eq_true rfl) (ro_tell (d := d) hG hm e142) (fun v h1 hq1 => ?_) (fun E h1 hq1 => md_nV hq1)
  obtain ⟨hv, rfl⟩ := hq1
  cases hv
  show mv_rq l G mX13_tellStep (d + 1) 145 [some (.ref m), none, some (.int x2), none] [] (md_H G B m S142) _
  refine mv_weak (A := [some (.ref m), none, none, none]) (by repeat' constructor) ?_
  exact ro_tellStep_j145 hG hm hq
def mo_tellStep_l30 (N : Nat) : Nat → Int32 → Int32 → md_S → Option md_S
  | 0, _, _, _ => none
  | n + 1, x1, x2, S =>
    if md_in x1 41 then
    if (S.2 19 x1.toNatClampNeg) ≤ x2 then
      md_c (mo_tell 39 S) fun S66 =>
      mo_tellStep_j145 N  S66
    else
      if md_in x1 41 then
      if md_in ((S.2 18 x1.toNatClampNeg) + x2) 160 then
      md_c (mo_tell (S.2 11 ((S.2 18 x1.toNatClampNeg) + x2).toNatClampNeg) S) fun S54 =>
      mo_tellStep_l30 N n x1 (x2 + 1) S54
      else none
      else none
    else none
theorem ro_tellStep_l30 {l : Launch} {G : mv_G} {B : mv_H} {m N d : Nat} (hG : mv_ok G) (hm : G.2.2.1 ≤ m) : ∀ n : Nat, ∀ {x1 : Int32} {x2 : Int32} {S : md_S} {q : md_S}, mo_tellStep_l30 N n x1 x2 S = some q → mv_rq l G mX13_tellStep (d + 1) 30 [some (.ref m), some (.int x1), some (.int x2), none] [] (md_H G B m S) (md_V G B m q)
  | 0, _, _, _, _, hq => nomatch hq
  | n + 1, x1, x2, S, q, hq => by
    rw [mo_tellStep_l30] at hq
    refine q_iload_n dX13_tellStep_30 rfl ?_
    refine q_aload_n dX13_tellStep_31 rfl ?_
    refine r_geta 19 dX13_tellStep_32 fl_RX13_45 (by decide) rfl kk_19 ?_
    refine q_iload_n dX13_tellStep_35 rfl ?_
    obtain ⟨g36, hq⟩ := md_g hq
    refine r_iald hG 19 dX13_tellStep_36 kk_19 g36 ?_
    refine q_icmp_ge (tgt := 63) dX13_tellStep_37 (by decide) (fun c37 => ?_) (fun c37 => ?_)
    ·
      have hq := md_pos c37 hq
      refine q_aload_n dX13_tellStep_63 rfl ?_
      refine q_bipush (v := 39) dX13_tellStep_64 (by decide) ?_
      obtain ⟨S66, e66, hq⟩ := md_c_e hq
      refine q_cV (Y := mX13_tell) (As := [.int 39]) (st := []) (b := m) (ci := 15) vc_X13_tell dX13_tellStep_66 ml_RX13_518 rfl md_obj rfl (Nat.le_of_ble_eq_true rfl) rfl (Nat.le_of_ble_eq_true rfl) (ro_tell (d := d) hG hm e66) (fun v h1 hq1 => ?_) (fun E h1 hq1 => md_nV hq1)
      obtain ⟨hv, rfl⟩ := hq1
      cases hv
      show mv_rq l G mX13_tellStep (d + 1) 69 [some (.ref m), some (.int x1), some (.int x2), none] [] (md_H G B m S66) _
      refine q_goto (tgt := 145) dX13_tellStep_69 (by decide) ?_
      refine mv_weak (A := [some (.ref m), none, none, none]) (by repeat' constructor) ?_
      exact ro_tellStep_j145 hG hm hq
    ·
      have hq := md_neg c37 hq
      refine q_aload_n dX13_tellStep_40 rfl ?_
      refine q_aload_n dX13_tellStep_41 rfl ?_
      refine r_geta 11 dX13_tellStep_42 fl_RX13_20 (by decide) rfl kk_11 ?_
      refine q_aload_n dX13_tellStep_45 rfl ?_
      refine r_geta 18 dX13_tellStep_46 fl_RX13_42 (by decide) rfl kk_18 ?_
      refine q_iload_n dX13_tellStep_49 rfl ?_
      obtain ⟨g50, hq⟩ := md_g hq
      refine r_iald hG 18 dX13_tellStep_50 kk_18 g50 ?_
      refine q_iload_n dX13_tellStep_51 rfl ?_
      refine q_iadd dX13_tellStep_52 ?_
      obtain ⟨g53, hq⟩ := md_g hq
      refine r_bald hG 11 dX13_tellStep_53 kk_11 g53 ?_
      obtain ⟨S54, e54, hq⟩ := md_c_e hq
      refine q_cV (Y := mX13_tell) (As := [.int (S.2 11 ((S.2 18 x1.toNatClampNeg) + x2).toNatClampNeg)]) (st := []) (b := m) (ci := 15) vc_X13_tell dX13_tellStep_54 ml_RX13_518 rfl md_obj rfl (Nat.le_of_ble_eq_true rfl) rfl (Nat.le_of_ble_eq_true rfl) (ro_tell (d := d) hG hm e54) (fun v h1 hq1 => ?_) (fun E h1 hq1 => md_nV hq1)
      obtain ⟨hv, rfl⟩ := hq1
      cases hv
      show mv_rq l G mX13_tellStep (d + 1) 57 [some (.ref m), some (.int x1), some (.int x2), none] [] (md_H G B m S54) _
      refine q_iinc dX13_tellStep_57 rfl rfl ?_
      show mv_rq l G mX13_tellStep (d + 1) 60 [some (.ref m), some (.int x1), some (.int (x2 + 1)), none] [] (md_H G B m S54) _
      refine q_goto (tgt := 30) dX13_tellStep_60 (by decide) ?_
      refine mv_weak (A := [some (.ref m), some (.int x1), some (.int (x2 + 1)), none]) (by repeat' constructor) ?_
      exact ro_tellStep_l30 hG hm n hq
def mo_tellStep_l83 (N : Nat) : Nat → Int32 → Int32 → Int32 → md_S → Option md_S
  | 0, _, _, _, _ => none
  | n + 1, x1, x2, x3, S =>
    if x1 ≤ x3 then
      if x2 ≤ 9 then
        mo_tellStep_j134 N x2 S
      else
        md_c (mo_tell (48 + (x2 / 10)) S) fun S131 =>
        mo_tellStep_j134 N x2 S131
    else
      if md_in x3 41 then
      if md_in x1 41 then
      if (S.2 13 x3.toNatClampNeg) = (S.2 13 x1.toNatClampNeg) then
        mo_tellStep_l83 N n x1 (x2 + 1) (x3 + 1) S
      else
        mo_tellStep_l83 N n x1 (x2 + 0) (x3 + 1) S
      else none
      else none
theorem ro_tellStep_l83 {l : Launch} {G : mv_G} {B : mv_H} {m N d : Nat} (hG : mv_ok G) (hm : G.2.2.1 ≤ m) : ∀ n : Nat, ∀ {x1 : Int32} {x2 : Int32} {x3 : Int32} {S : md_S} {q : md_S}, mo_tellStep_l83 N n x1 x2 x3 S = some q → mv_rq l G mX13_tellStep (d + 1) 83 [some (.ref m), some (.int x1), some (.int x2), some (.int x3)] [] (md_H G B m S) (md_V G B m q)
  | 0, _, _, _, _, _, hq => nomatch hq
  | n + 1, x1, x2, x3, S, q, hq => by
    rw [mo_tellStep_l83] at hq
    refine q_iload_n dX13_tellStep_83 rfl ?_
    refine q_iload_n dX13_tellStep_84 rfl ?_
    refine q_icmp_ge (tgt := 117) dX13_tellStep_85 (by decide) (fun c85 => ?_) (fun c85 => ?_)
    ·
      have hq := md_pos c85 hq
      refine q_iload_n dX13_tellStep_117 rfl ?_
      refine q_bipush (v := 9) dX13_tellStep_118 (by decide) ?_
      refine q_icmp_le (tgt := 134) dX13_tellStep_120 (by decide) (fun c120 => ?_) (fun c120 => ?_)
      ·
        have hq := md_pos c120 hq
        refine mv_weak (A := [some (.ref m), none, some (.int x2), none]) (by repeat' constructor) ?_
        exact ro_tellStep_j134 hG hm hq
      ·
        have hq := md_neg c120 hq
        refine q_aload_n dX13_tellStep_123 rfl ?_
        refine q_bipush (v := 48) dX13_tellStep_124 (by decide) ?_
        refine q_iload_n dX13_tellStep_126 rfl ?_
        refine q_bipush (v := 10) dX13_tellStep_127 (by decide) ?_
        refine q_idiv dX13_tellStep_129 (by decide) ?_
        refine q_iadd dX13_tellStep_130 ?_
        obtain ⟨S131, e131, hq⟩ := md_c_e hq
        refine q_cV (Y := mX13_tell) (As := [.int (48 + (x2 / 10))]) (st := []) (b := m) (ci := 15) vc_X13_tell dX13_tellStep_131 ml_RX13_518 rfl md_obj rfl (Nat.le_of_ble_eq_true rfl) rfl (Nat.le_of_ble_eq_true rfl) (ro_tell (d := d) hG hm e131) (fun v h1 hq1 => ?_) (fun E h1 hq1 => md_nV hq1)
        obtain ⟨hv, rfl⟩ := hq1
        cases hv
        show mv_rq l G mX13_tellStep (d + 1) 134 [some (.ref m), some (.int x1), some (.int x2), some (.int x3)] [] (md_H G B m S131) _
        refine mv_weak (A := [some (.ref m), none, some (.int x2), none]) (by repeat' constructor) ?_
        exact ro_tellStep_j134 hG hm hq
    ·
      have hq := md_neg c85 hq
      refine q_iload_n dX13_tellStep_88 rfl ?_
      refine q_aload_n dX13_tellStep_89 rfl ?_
      refine r_geta 13 dX13_tellStep_90 fl_RX13_27 (by decide) rfl kk_13 ?_
      refine q_iload_n dX13_tellStep_93 rfl ?_
      obtain ⟨g94, hq⟩ := md_g hq
      refine r_iald hG 13 dX13_tellStep_94 kk_13 g94 ?_
      refine q_aload_n dX13_tellStep_95 rfl ?_
      refine r_geta 13 dX13_tellStep_96 fl_RX13_27 (by decide) rfl kk_13 ?_
      refine q_iload_n dX13_tellStep_99 rfl ?_
      obtain ⟨g100, hq⟩ := md_g hq
      refine r_iald hG 13 dX13_tellStep_100 kk_13 g100 ?_
      refine q_icmp_ne (tgt := 108) dX13_tellStep_101 (by decide) (fun c101 => ?_) (fun c101 => ?_)
      ·
        have hq := md_neg c101 hq
        refine q_iconst (v := 0) dX13_tellStep_108 (by decide) ?_
        refine q_iadd dX13_tellStep_109 ?_
        refine q_istore_n dX13_tellStep_110 (Nat.le_of_ble_eq_true rfl) rfl ?_
        show mv_rq l G mX13_tellStep (d + 1) 111 [some (.ref m), some (.int x1), some (.int (x2 + 0)), some (.int x3)] [] (md_H G B m S) _
        refine q_iinc dX13_tellStep_111 rfl rfl ?_
        show mv_rq l G mX13_tellStep (d + 1) 114 [some (.ref m), some (.int x1), some (.int (x2 + 0)), some (.int (x3 + 1))] [] (md_H G B m S) _
        refine q_goto (tgt := 83) dX13_tellStep_114 (by decide) ?_
        refine mv_weak (A := [some (.ref m), some (.int x1), some (.int (x2 + 0)), some (.int (x3 + 1))]) (by repeat' constructor) ?_
        exact ro_tellStep_l83 hG hm n hq
      ·
        have hq := md_pos c101 hq
        refine q_iconst (v := 1) dX13_tellStep_104 (by decide) ?_
        refine q_goto (tgt := 109) dX13_tellStep_105 (by decide) ?_
        refine q_iadd dX13_tellStep_109 ?_
        refine q_istore_n dX13_tellStep_110 (Nat.le_of_ble_eq_true rfl) rfl ?_
        show mv_rq l G mX13_tellStep (d + 1) 111 [some (.ref m), some (.int x1), some (.int (x2 + 1)), some (.int x3)] [] (md_H G B m S) _
        refine q_iinc dX13_tellStep_111 rfl rfl ?_
        show mv_rq l G mX13_tellStep (d + 1) 114 [some (.ref m), some (.int x1), some (.int (x2 + 1)), some (.int (x3 + 1))] [] (md_H G B m S) _
        refine q_goto (tgt := 83) dX13_tellStep_114 (by decide) ?_
        refine mv_weak (A := [some (.ref m), some (.int x1), some (.int (x2 + 1)), some (.int (x3 + 1))]) (by repeat' constructor) ?_
        exact ro_tellStep_l83 hG hm n hq
def mo_tellStep (N : Nat) (x1 : Int32) (S : md_S) : Option md_S :=
  md_c (mo_tell 91 S) fun S3 =>
  if md_in x1 41 then
  if md_in (S3.2 13 x1.toNatClampNeg) 41 then
  if (S3.2 12 (S3.2 13 x1.toNatClampNeg).toNatClampNeg) = 6 then
    md_c (mo_tell 39 S3) fun S25 =>
    mo_tellStep_l30 N N x1 0 S25
  else
    if md_in x1 41 then
    mo_tellStep_l83 N N x1 0 ((S3.2 13 x1.toNatClampNeg) + 1) S3
    else none
  else none
  else none
theorem ro_tellStep {l : Launch} {G : mv_G} {B : mv_H} {m N d : Nat} (hG : mv_ok G) (hm : G.2.2.1 ≤ m) {x1 : Int32} {S : md_S} {q : md_S} (hq : mo_tellStep N x1 S = some q) : mv_rq l G mX13_tellStep (d + 1) 0 (mv_in [.ref m, .int x1] 4) [] (md_H G B m S) (md_V G B m q) := by
  unfold mo_tellStep at hq
  show mv_rq l G mX13_tellStep (d + 1) 0 [some (.ref m), some (.int x1), none, none] [] (md_H G B m S) _
  refine q_aload_n dX13_tellStep_0 rfl ?_
  refine q_bipush (v := 91) dX13_tellStep_1 (by decide) ?_
  obtain ⟨S3, e3, hq⟩ := md_c_e hq
  refine q_cV (Y := mX13_tell) (As := [.int 91]) (st := []) (b := m) (ci := 15) vc_X13_tell dX13_tellStep_3 ml_RX13_518 rfl md_obj rfl (Nat.le_of_ble_eq_true rfl) rfl (Nat.le_of_ble_eq_true rfl) (ro_tell (d := d) hG hm e3) (fun v h1 hq1 => ?_) (fun E h1 hq1 => md_nV hq1)
  obtain ⟨hv, rfl⟩ := hq1
  cases hv
  show mv_rq l G mX13_tellStep (d + 1) 6 [some (.ref m), some (.int x1), none, none] [] (md_H G B m S3) _
  refine q_aload_n dX13_tellStep_6 rfl ?_
  refine r_geta 12 dX13_tellStep_7 fl_RX13_23 (by decide) rfl kk_12 ?_
  refine q_aload_n dX13_tellStep_10 rfl ?_
  refine r_geta 13 dX13_tellStep_11 fl_RX13_27 (by decide) rfl kk_13 ?_
  refine q_iload_n dX13_tellStep_14 rfl ?_
  obtain ⟨g15, hq⟩ := md_g hq
  refine r_iald hG 13 dX13_tellStep_15 kk_13 g15 ?_
  obtain ⟨g16, hq⟩ := md_g hq
  refine r_iald hG 12 dX13_tellStep_16 kk_12 g16 ?_
  refine q_bipush (v := 6) dX13_tellStep_17 (by decide) ?_
  refine q_icmp_ne (tgt := 72) dX13_tellStep_19 (by decide) (fun c19 => ?_) (fun c19 => ?_)
  ·
    have hq := md_neg c19 hq
    refine q_iconst (v := 0) dX13_tellStep_72 (by decide) ?_
    refine q_istore_n dX13_tellStep_73 (Nat.le_of_ble_eq_true rfl) rfl ?_
    show mv_rq l G mX13_tellStep (d + 1) 74 [some (.ref m), some (.int x1), some (.int 0), none] [] (md_H G B m S3) _
    refine q_aload_n dX13_tellStep_74 rfl ?_
    refine r_geta 13 dX13_tellStep_75 fl_RX13_27 (by decide) rfl kk_13 ?_
    refine q_iload_n dX13_tellStep_78 rfl ?_
    obtain ⟨g79, hq⟩ := md_g hq
    refine r_iald hG 13 dX13_tellStep_79 kk_13 g79 ?_
    refine q_iconst (v := 1) dX13_tellStep_80 (by decide) ?_
    refine q_iadd dX13_tellStep_81 ?_
    refine q_istore_n dX13_tellStep_82 (Nat.le_of_ble_eq_true rfl) rfl ?_
    show mv_rq l G mX13_tellStep (d + 1) 83 [some (.ref m), some (.int x1), some (.int 0), some (.int ((S3.2 13 x1.toNatClampNeg) + 1))] [] (md_H G B m S3) _
    refine mv_weak (A := [some (.ref m), some (.int x1), some (.int 0), some (.int ((S3.2 13 x1.toNatClampNeg) + 1))]) (by repeat' constructor) ?_
    exact ro_tellStep_l83 hG hm N hq
  ·
    have hq := md_pos c19 hq
    refine q_aload_n dX13_tellStep_22 rfl ?_
    refine q_bipush (v := 39) dX13_tellStep_23 (by decide) ?_
    obtain ⟨S25, e25, hq⟩ := md_c_e hq
    refine q_cV (Y := mX13_tell) (As := [.int 39]) (st := []) (b := m) (ci := 15) vc_X13_tell dX13_tellStep_25 ml_RX13_518 rfl md_obj rfl (Nat.le_of_ble_eq_true rfl) rfl (Nat.le_of_ble_eq_true rfl) (ro_tell (d := d) hG hm e25) (fun v h1 hq1 => ?_) (fun E h1 hq1 => md_nV hq1)
    obtain ⟨hv, rfl⟩ := hq1
    cases hv
    show mv_rq l G mX13_tellStep (d + 1) 28 [some (.ref m), some (.int x1), none, none] [] (md_H G B m S25) _
    refine q_iconst (v := 0) dX13_tellStep_28 (by decide) ?_
    refine q_istore_n dX13_tellStep_29 (Nat.le_of_ble_eq_true rfl) rfl ?_
    show mv_rq l G mX13_tellStep (d + 1) 30 [some (.ref m), some (.int x1), some (.int 0), none] [] (md_H G B m S25) _
    refine mv_weak (A := [some (.ref m), some (.int x1), some (.int 0), none]) (by repeat' constructor) ?_
    exact ro_tellStep_l30 hG hm N hq
def mo_path_j71 (N : Nat) (y0 : Int32) (S : md_S) : Option (Int32 × md_S) :=
  some (y0, S)
theorem ro_path_j71 {l : Launch} {G : mv_G} {B : mv_H} {m N d : Nat} (hG : mv_ok G) (hm : G.2.2.1 ≤ m) {y0 : Int32} {S : md_S} {q : (Int32 × md_S)} (hq : mo_path_j71 N y0 S = some q) : mv_rq l G mX13_path (d + 2) 71 [none, none, none, none] [.int y0] (md_H G B m S) (md_Q G B m q) := by
  unfold mo_path_j71 at hq
  obtain rfl := Option.some.inj hq
  exact q_iret (ty := .int) dX13_path_71 rfl rfl ⟨rfl, rfl⟩
def mo_path_j70 (N : Nat) (S : md_S) : Option (Int32 × md_S) :=
  mo_path_j71 N 0 S
theorem ro_path_j70 {l : Launch} {G : mv_G} {B : mv_H} {m N d : Nat} (hG : mv_ok G) (hm : G.2.2.1 ≤ m) {S : md_S} {q : (Int32 × md_S)} (hq : mo_path_j70 N  S = some q) : mv_rq l G mX13_path (d + 2) 70 [none, none, none, none] [] (md_H G B m S) (md_Q G B m q) := by
  unfold mo_path_j70 at hq
  refine q_iconst (v := 0) dX13_path_70 (by decide) ?_
  refine mv_weak (A := [none, none, none, none]) (by repeat' constructor) ?_
  exact ro_path_j71 hG hm hq
def mo_path_l23 (N : Nat) : Nat → Int32 → Int32 → Int32 → md_S → Option (Int32 × md_S)
  | 0, _, _, _, _ => none
  | n + 1, x1, x2, x3, S =>
    if x1 < x3 then
      if x2 < 0 then
        mo_path_j70 N  S
      else
        if (S.1 84) ≤ x2 then
          mo_path_j70 N  S
        else
          if md_in x2 400 then
          mo_path_j71 N (S.2 85 x2.toNatClampNeg) S
          else none
    else
      if md_in x3 41 then
      if (S.2 14 x3.toNatClampNeg) < x1 then
        mo_path_l23 N n x1 x2 (x3 + 1) S
      else
        md_c (mo_tellStep N x3 S) fun S40 =>
        mo_path_l23 N n x1 x2 (x3 + 1) S40
      else none
theorem ro_path_l23 {l : Launch} {G : mv_G} {B : mv_H} {m N d : Nat} (hG : mv_ok G) (hm : G.2.2.1 ≤ m) : ∀ n : Nat, ∀ {x1 : Int32} {x2 : Int32} {x3 : Int32} {S : md_S} {q : (Int32 × md_S)}, mo_path_l23 N n x1 x2 x3 S = some q → mv_rq l G mX13_path (d + 2) 23 [some (.ref m), some (.int x1), some (.int x2), some (.int x3)] [] (md_H G B m S) (md_Q G B m q)
  | 0, _, _, _, _, _, hq => nomatch hq
  | n + 1, x1, x2, x3, S, q, hq => by
    rw [mo_path_l23] at hq
    refine q_iload_n dX13_path_23 rfl ?_
    refine q_iload_n dX13_path_24 rfl ?_
    refine q_icmp_gt (tgt := 49) dX13_path_25 (by decide) (fun c25 => ?_) (fun c25 => ?_)
    ·
      have hq := md_pos c25 hq
      refine q_iload_n dX13_path_49 rfl ?_
      refine q_if_lt (tgt := 70) dX13_path_50 (by decide) (fun c50 => ?_) (fun c50 => ?_)
      ·
        have hq := md_pos c50 hq
        refine mv_weak (A := [none, none, none, none]) (by repeat' constructor) ?_
        exact ro_path_j70 hG hm hq
      ·
        have hq := md_neg c50 hq
        refine q_iload_n dX13_path_53 rfl ?_
        refine q_aload_n dX13_path_54 rfl ?_
        refine r_geti 84 dX13_path_55 fl_RX13_515 (by decide) rfl ki_84 ?_
        refine q_icmp_ge (tgt := 70) dX13_path_58 (by decide) (fun c58 => ?_) (fun c58 => ?_)
        ·
          have hq := md_pos c58 hq
          refine mv_weak (A := [none, none, none, none]) (by repeat' constructor) ?_
          exact ro_path_j70 hG hm hq
        ·
          have hq := md_neg c58 hq
          refine q_aload_n dX13_path_61 rfl ?_
          refine r_geta 85 dX13_path_62 fl_RX13_190 (by decide) rfl kk_85 ?_
          refine q_iload_n dX13_path_65 rfl ?_
          obtain ⟨g66, hq⟩ := md_g hq
          refine r_bald hG 85 dX13_path_66 kk_85 g66 ?_
          refine q_goto (tgt := 71) dX13_path_67 (by decide) ?_
          refine mv_weak (A := [none, none, none, none]) (by repeat' constructor) ?_
          exact ro_path_j71 hG hm hq
    ·
      have hq := md_neg c25 hq
      refine q_aload_n dX13_path_28 rfl ?_
      refine r_geta 14 dX13_path_29 fl_RX13_30 (by decide) rfl kk_14 ?_
      refine q_iload_n dX13_path_32 rfl ?_
      obtain ⟨g33, hq⟩ := md_g hq
      refine r_iald hG 14 dX13_path_33 kk_14 g33 ?_
      refine q_iload_n dX13_path_34 rfl ?_
      refine q_icmp_lt (tgt := 43) dX13_path_35 (by decide) (fun c35 => ?_) (fun c35 => ?_)
      ·
        have hq := md_pos c35 hq
        refine q_iinc dX13_path_43 rfl rfl ?_
        show mv_rq l G mX13_path (d + 2) 46 [some (.ref m), some (.int x1), some (.int x2), some (.int (x3 + 1))] [] (md_H G B m S) _
        refine q_goto (tgt := 23) dX13_path_46 (by decide) ?_
        refine mv_weak (A := [some (.ref m), some (.int x1), some (.int x2), some (.int (x3 + 1))]) (by repeat' constructor) ?_
        exact ro_path_l23 hG hm n hq
      ·
        have hq := md_neg c35 hq
        refine q_aload_n dX13_path_38 rfl ?_
        refine q_iload_n dX13_path_39 rfl ?_
        obtain ⟨S40, e40, hq⟩ := md_c_e hq
        refine q_cV (Y := mX13_tellStep) (As := [.int x3]) (st := []) (b := m) (ci := 15) vc_X13_tellStep dX13_path_40 ml_RX13_521 rfl md_obj rfl (Nat.le_of_ble_eq_true rfl) rfl (Nat.le_of_ble_eq_true rfl) (ro_tellStep (d := d) hG hm e40) (fun v h1 hq1 => ?_) (fun E h1 hq1 => md_nV hq1)
        obtain ⟨hv, rfl⟩ := hq1
        cases hv
        show mv_rq l G mX13_path (d + 2) 43 [some (.ref m), some (.int x1), some (.int x2), some (.int x3)] [] (md_H G B m S40) _
        refine q_iinc dX13_path_43 rfl rfl ?_
        show mv_rq l G mX13_path (d + 2) 46 [some (.ref m), some (.int x1), some (.int x2), some (.int (x3 + 1))] [] (md_H G B m S40) _
        refine q_goto (tgt := 23) dX13_path_46 (by decide) ?_
        refine mv_weak (A := [some (.ref m), some (.int x1), some (.int x2), some (.int (x3 + 1))]) (by repeat' constructor) ?_
        exact ro_path_l23 hG hm n hq
def mo_path (N : Nat) (x1 : Int32) (x2 : Int32) (S : md_S) : Option (Int32 × md_S) :=
  md_b (mo_isNode x1 S) fun v2 S2 =>
  if v2 = 0 then
    some (0, S2)
  else
    md_l (md_p S2 84 0) fun S12 =>
    md_c (mo_tell 36 S12) fun S18 =>
    mo_path_l23 N N x1 x2 1 S18
theorem ro_path {l : Launch} {G : mv_G} {B : mv_H} {m N d : Nat} (hG : mv_ok G) (hm : G.2.2.1 ≤ m) {x1 : Int32} {x2 : Int32} {S : md_S} {q : (Int32 × md_S)} (hq : mo_path N x1 x2 S = some q) : mv_rq l G mX13_path (d + 2) 0 (mv_in [.ref m, .int x1, .int x2] 4) [] (md_H G B m S) (md_Q G B m q) := by
  unfold mo_path at hq
  show mv_rq l G mX13_path (d + 2) 0 [some (.ref m), some (.int x1), some (.int x2), none] [] (md_H G B m S) _
  refine q_aload_n dX13_path_0 rfl ?_
  refine q_iload_n dX13_path_1 rfl ?_
  obtain ⟨v2, S2, e2, hq⟩ := md_b_e hq
  refine q_cV (Y := mX13_isNode) (As := [.int x1]) (st := []) (b := m) (ci := 15) vc_X13_isNode dX13_path_2 ml_RX13_512 rfl md_obj rfl (Nat.le_of_ble_eq_true rfl) rfl (Nat.le_of_ble_eq_true rfl) (ro_isNode (d := d + 1) hG hm e2) (fun v h1 hq1 => ?_) (fun E h1 hq1 => md_nQ hq1)
  obtain ⟨hv, rfl⟩ := hq1
  cases hv
  show mv_rq l G mX13_path (d + 2) 5 [some (.ref m), some (.int x1), some (.int x2), none] [.int v2] (md_H G B m S2) _
  refine q_if_ne (tgt := 10) dX13_path_5 (by decide) (fun c5 => ?_) (fun c5 => ?_)
  ·
    have hq := md_neg c5 hq
    refine q_aload_n dX13_path_10 rfl ?_
    refine q_iconst (v := 0) dX13_path_11 (by decide) ?_
    refine r_puti 84 .int dX13_path_12 fl_RX13_515 (by decide) rfl ki_84 rfl kp_84 rfl rfl hm (fun S12 e12 => ?_)
    have hq := md_l_e e12 hq
    clear e12
    show mv_rq l G mX13_path (d + 2) 15 [some (.ref m), some (.int x1), some (.int x2), none] [] (md_H G B m S12) _
    refine q_aload_n dX13_path_15 rfl ?_
    refine q_bipush (v := 36) dX13_path_16 (by decide) ?_
    obtain ⟨S18, e18, hq⟩ := md_c_e hq
    refine q_cV (Y := mX13_tell) (As := [.int 36]) (st := []) (b := m) (ci := 15) vc_X13_tell dX13_path_18 ml_RX13_518 rfl md_obj rfl (Nat.le_of_ble_eq_true rfl) rfl (Nat.le_of_ble_eq_true rfl) (ro_tell (d := d + 1) hG hm e18) (fun v h1 hq1 => ?_) (fun E h1 hq1 => md_nV hq1)
    obtain ⟨hv, rfl⟩ := hq1
    cases hv
    show mv_rq l G mX13_path (d + 2) 21 [some (.ref m), some (.int x1), some (.int x2), none] [] (md_H G B m S18) _
    refine q_iconst (v := 1) dX13_path_21 (by decide) ?_
    refine q_istore_n dX13_path_22 (Nat.le_of_ble_eq_true rfl) rfl ?_
    show mv_rq l G mX13_path (d + 2) 23 [some (.ref m), some (.int x1), some (.int x2), some (.int 1)] [] (md_H G B m S18) _
    refine mv_weak (A := [some (.ref m), some (.int x1), some (.int x2), some (.int 1)]) (by repeat' constructor) ?_
    exact ro_path_l23 hG hm N hq
  ·
    have hq := md_pos c5 hq
    refine q_iconst (v := 0) dX13_path_8 (by decide) ?_
    obtain rfl := Option.some.inj hq
    exact q_iret (ty := .int) dX13_path_9 rfl rfl ⟨rfl, rfl⟩
def mo_text_j111 (N : Nat) (y0 : Int32) (S : md_S) : Option (Int32 × md_S) :=
  some (y0, S)
theorem ro_text_j111 {l : Launch} {G : mv_G} {B : mv_H} {m N d : Nat} (hG : mv_ok G) (hm : G.2.2.1 ≤ m) {y0 : Int32} {S : md_S} {q : (Int32 × md_S)} (hq : mo_text_j111 N y0 S = some q) : mv_rq l G mX13_text (d + 1) 111 [none, none, none, none, none, none] [.int y0] (md_H G B m S) (md_Q G B m q) := by
  unfold mo_text_j111 at hq
  obtain rfl := Option.some.inj hq
  exact q_iret (ty := .int) dX13_text_111 rfl rfl ⟨rfl, rfl⟩
def mo_text_j110 (N : Nat) (S : md_S) : Option (Int32 × md_S) :=
  mo_text_j111 N 0 S
theorem ro_text_j110 {l : Launch} {G : mv_G} {B : mv_H} {m N d : Nat} (hG : mv_ok G) (hm : G.2.2.1 ≤ m) {S : md_S} {q : (Int32 × md_S)} (hq : mo_text_j110 N  S = some q) : mv_rq l G mX13_text (d + 1) 110 [none, none, none, none, none, none] [] (md_H G B m S) (md_Q G B m q) := by
  unfold mo_text_j110 at hq
  refine q_iconst (v := 0) dX13_text_110 (by decide) ?_
  refine mv_weak (A := [none, none, none, none, none, none]) (by repeat' constructor) ?_
  exact ro_text_j111 hG hm hq
def mo_text_l25 (N : Nat) : Nat → Int32 → Int32 → Int32 → Int32 → md_S → Option (Int32 × md_S)
  | 0, _, _, _, _, _ => none
  | n + 1, x1, x2, x3, x4, S =>
    if md_in x1 41 then
    if (S.2 16 x1.toNatClampNeg) ≤ x4 then
      if x2 < 0 then
        mo_text_j110 N  S
      else
        if (S.1 84) ≤ x2 then
          mo_text_j110 N  S
        else
          if md_in x2 400 then
          mo_text_j111 N (S.2 85 x2.toNatClampNeg) S
          else none
    else
      if md_in x4 160 then
      if (S.2 11 x4.toNatClampNeg) = 34 then
        if x3 = 0 then
          if (S.2 11 x4.toNatClampNeg) = 32 then
            md_c (mo_tell (S.2 11 x4.toNatClampNeg) S) fun S80 =>
            mo_text_l25 N n x1 x2 1 (x4 + 1) S80
          else
            md_c (mo_tell (S.2 11 x4.toNatClampNeg) S) fun S80 =>
            mo_text_l25 N n x1 x2 1 (x4 + 1) S80
        else
          if (S.2 11 x4.toNatClampNeg) = 32 then
            mo_text_l25 N n x1 x2 0 (x4 + 1) S
          else
            md_c (mo_tell (S.2 11 x4.toNatClampNeg) S) fun S80 =>
            mo_text_l25 N n x1 x2 0 (x4 + 1) S80
      else
        if (S.2 11 x4.toNatClampNeg) = 32 then
          if x3 = 0 then
            mo_text_l25 N n x1 x2 x3 (x4 + 1) S
          else
            md_c (mo_tell (S.2 11 x4.toNatClampNeg) S) fun S80 =>
            mo_text_l25 N n x1 x2 x3 (x4 + 1) S80
        else
          md_c (mo_tell (S.2 11 x4.toNatClampNeg) S) fun S80 =>
          mo_text_l25 N n x1 x2 x3 (x4 + 1) S80
      else none
    else none
theorem ro_text_l25 {l : Launch} {G : mv_G} {B : mv_H} {m N d : Nat} (hG : mv_ok G) (hm : G.2.2.1 ≤ m) : ∀ n : Nat, ∀ {x1 : Int32} {x2 : Int32} {x3 : Int32} {x4 : Int32} {S : md_S} {q : (Int32 × md_S)}, mo_text_l25 N n x1 x2 x3 x4 S = some q → mv_rq l G mX13_text (d + 1) 25 [some (.ref m), some (.int x1), some (.int x2), some (.int x3), some (.int x4), none] [] (md_H G B m S) (md_Q G B m q)
  | 0, _, _, _, _, _, _, hq => nomatch hq
  | n + 1, x1, x2, x3, x4, S, q, hq => by
    rw [mo_text_l25] at hq
    refine q_iload dX13_text_25 rfl ?_
    refine q_aload_n dX13_text_27 rfl ?_
    refine r_geta 16 dX13_text_28 fl_RX13_36 (by decide) rfl kk_16 ?_
    refine q_iload_n dX13_text_31 rfl ?_
    obtain ⟨g32, hq⟩ := md_g hq
    refine r_iald hG 16 dX13_text_32 kk_16 g32 ?_
    refine q_icmp_ge (tgt := 89) dX13_text_33 (by decide) (fun c33 => ?_) (fun c33 => ?_)
    ·
      have hq := md_pos c33 hq
      refine q_iload_n dX13_text_89 rfl ?_
      refine q_if_lt (tgt := 110) dX13_text_90 (by decide) (fun c90 => ?_) (fun c90 => ?_)
      ·
        have hq := md_pos c90 hq
        refine mv_weak (A := [none, none, none, none, none, none]) (by repeat' constructor) ?_
        exact ro_text_j110 hG hm hq
      ·
        have hq := md_neg c90 hq
        refine q_iload_n dX13_text_93 rfl ?_
        refine q_aload_n dX13_text_94 rfl ?_
        refine r_geti 84 dX13_text_95 fl_RX13_515 (by decide) rfl ki_84 ?_
        refine q_icmp_ge (tgt := 110) dX13_text_98 (by decide) (fun c98 => ?_) (fun c98 => ?_)
        ·
          have hq := md_pos c98 hq
          refine mv_weak (A := [none, none, none, none, none, none]) (by repeat' constructor) ?_
          exact ro_text_j110 hG hm hq
        ·
          have hq := md_neg c98 hq
          refine q_aload_n dX13_text_101 rfl ?_
          refine r_geta 85 dX13_text_102 fl_RX13_190 (by decide) rfl kk_85 ?_
          refine q_iload_n dX13_text_105 rfl ?_
          obtain ⟨g106, hq⟩ := md_g hq
          refine r_bald hG 85 dX13_text_106 kk_85 g106 ?_
          refine q_goto (tgt := 111) dX13_text_107 (by decide) ?_
          refine mv_weak (A := [none, none, none, none, none, none]) (by repeat' constructor) ?_
          exact ro_text_j111 hG hm hq
    ·
      have hq := md_neg c33 hq
      refine q_aload_n dX13_text_36 rfl ?_
      refine r_geta 11 dX13_text_37 fl_RX13_20 (by decide) rfl kk_11 ?_
      refine q_iload dX13_text_40 rfl ?_
      obtain ⟨g42, hq⟩ := md_g hq
      refine r_bald hG 11 dX13_text_42 kk_11 g42 ?_
      refine q_istore dX13_text_43 (Nat.le_of_ble_eq_true rfl) rfl ?_
      show mv_rq l G mX13_text (d + 1) 45 [some (.ref m), some (.int x1), some (.int x2), some (.int x3), some (.int x4), some (.int (S.2 11 x4.toNatClampNeg))] [] (md_H G B m S) _
      refine q_iload dX13_text_45 rfl ?_
      refine q_bipush (v := 34) dX13_text_47 (by decide) ?_
      refine q_icmp_ne (tgt := 64) dX13_text_49 (by decide) (fun c49 => ?_) (fun c49 => ?_)
      ·
        have hq := md_neg c49 hq
        refine q_iload_n dX13_text_64 rfl ?_
        refine q_istore_n dX13_text_65 (Nat.le_of_ble_eq_true rfl) rfl ?_
        show mv_rq l G mX13_text (d + 1) 66 [some (.ref m), some (.int x1), some (.int x2), some (.int x3), some (.int x4), some (.int (S.2 11 x4.toNatClampNeg))] [] (md_H G B m S) _
        refine q_iload dX13_text_66 rfl ?_
        refine q_bipush (v := 32) dX13_text_68 (by decide) ?_
        refine q_icmp_ne (tgt := 77) dX13_text_70 (by decide) (fun c70 => ?_) (fun c70 => ?_)
        ·
          have hq := md_neg c70 hq
          refine q_aload_n dX13_text_77 rfl ?_
          refine q_iload dX13_text_78 rfl ?_
          obtain ⟨S80, e80, hq⟩ := md_c_e hq
          refine q_cV (Y := mX13_tell) (As := [.int (S.2 11 x4.toNatClampNeg)]) (st := []) (b := m) (ci := 15) vc_X13_tell dX13_text_80 ml_RX13_518 rfl md_obj rfl (Nat.le_of_ble_eq_true rfl) rfl (Nat.le_of_ble_eq_true rfl) (ro_tell (d := d) hG hm e80) (fun v h1 hq1 => ?_) (fun E h1 hq1 => md_nV hq1)
          obtain ⟨hv, rfl⟩ := hq1
          cases hv
          show mv_rq l G mX13_text (d + 1) 83 [some (.ref m), some (.int x1), some (.int x2), some (.int x3), some (.int x4), some (.int (S.2 11 x4.toNatClampNeg))] [] (md_H G B m S80) _
          refine q_iinc dX13_text_83 rfl rfl ?_
          show mv_rq l G mX13_text (d + 1) 86 [some (.ref m), some (.int x1), some (.int x2), some (.int x3), some (.int (x4 + 1)), some (.int (S.2 11 x4.toNatClampNeg))] [] (md_H G B m S80) _
          refine q_goto (tgt := 25) dX13_text_86 (by decide) ?_
          refine mv_weak (A := [some (.ref m), some (.int x1), some (.int x2), some (.int x3), some (.int (x4 + 1)), none]) (by repeat' constructor) ?_
          exact ro_text_l25 hG hm n hq
        ·
          have hq := md_pos c70 hq
          refine q_iload_n dX13_text_73 rfl ?_
          refine q_if_eq (tgt := 83) dX13_text_74 (by decide) (fun c74 => ?_) (fun c74 => ?_)
          ·
            have hq := md_pos c74 hq
            refine q_iinc dX13_text_83 rfl rfl ?_
            show mv_rq l G mX13_text (d + 1) 86 [some (.ref m), some (.int x1), some (.int x2), some (.int x3), some (.int (x4 + 1)), some (.int (S.2 11 x4.toNatClampNeg))] [] (md_H G B m S) _
            refine q_goto (tgt := 25) dX13_text_86 (by decide) ?_
            refine mv_weak (A := [some (.ref m), some (.int x1), some (.int x2), some (.int x3), some (.int (x4 + 1)), none]) (by repeat' constructor) ?_
            exact ro_text_l25 hG hm n hq
          ·
            have hq := md_neg c74 hq
            refine q_aload_n dX13_text_77 rfl ?_
            refine q_iload dX13_text_78 rfl ?_
            obtain ⟨S80, e80, hq⟩ := md_c_e hq
            refine q_cV (Y := mX13_tell) (As := [.int (S.2 11 x4.toNatClampNeg)]) (st := []) (b := m) (ci := 15) vc_X13_tell dX13_text_80 ml_RX13_518 rfl md_obj rfl (Nat.le_of_ble_eq_true rfl) rfl (Nat.le_of_ble_eq_true rfl) (ro_tell (d := d) hG hm e80) (fun v h1 hq1 => ?_) (fun E h1 hq1 => md_nV hq1)
            obtain ⟨hv, rfl⟩ := hq1
            cases hv
            show mv_rq l G mX13_text (d + 1) 83 [some (.ref m), some (.int x1), some (.int x2), some (.int x3), some (.int x4), some (.int (S.2 11 x4.toNatClampNeg))] [] (md_H G B m S80) _
            refine q_iinc dX13_text_83 rfl rfl ?_
            show mv_rq l G mX13_text (d + 1) 86 [some (.ref m), some (.int x1), some (.int x2), some (.int x3), some (.int (x4 + 1)), some (.int (S.2 11 x4.toNatClampNeg))] [] (md_H G B m S80) _
            refine q_goto (tgt := 25) dX13_text_86 (by decide) ?_
            refine mv_weak (A := [some (.ref m), some (.int x1), some (.int x2), some (.int x3), some (.int (x4 + 1)), none]) (by repeat' constructor) ?_
            exact ro_text_l25 hG hm n hq
      ·
        have hq := md_pos c49 hq
        refine q_iload_n dX13_text_52 rfl ?_
        refine q_if_ne (tgt := 60) dX13_text_53 (by decide) (fun c53 => ?_) (fun c53 => ?_)
        ·
          have hq := md_neg c53 hq
          refine q_iconst (v := 0) dX13_text_60 (by decide) ?_
          refine q_goto (tgt := 65) dX13_text_61 (by decide) ?_
          refine q_istore_n dX13_text_65 (Nat.le_of_ble_eq_true rfl) rfl ?_
          show mv_rq l G mX13_text (d + 1) 66 [some (.ref m), some (.int x1), some (.int x2), some (.int 0), some (.int x4), some (.int (S.2 11 x4.toNatClampNeg))] [] (md_H G B m S) _
          refine q_iload dX13_text_66 rfl ?_
          refine q_bipush (v := 32) dX13_text_68 (by decide) ?_
          refine q_icmp_ne (tgt := 77) dX13_text_70 (by decide) (fun c70 => ?_) (fun c70 => ?_)
          ·
            have hq := md_neg c70 hq
            refine q_aload_n dX13_text_77 rfl ?_
            refine q_iload dX13_text_78 rfl ?_
            obtain ⟨S80, e80, hq⟩ := md_c_e hq
            refine q_cV (Y := mX13_tell) (As := [.int (S.2 11 x4.toNatClampNeg)]) (st := []) (b := m) (ci := 15) vc_X13_tell dX13_text_80 ml_RX13_518 rfl md_obj rfl (Nat.le_of_ble_eq_true rfl) rfl (Nat.le_of_ble_eq_true rfl) (ro_tell (d := d) hG hm e80) (fun v h1 hq1 => ?_) (fun E h1 hq1 => md_nV hq1)
            obtain ⟨hv, rfl⟩ := hq1
            cases hv
            show mv_rq l G mX13_text (d + 1) 83 [some (.ref m), some (.int x1), some (.int x2), some (.int 0), some (.int x4), some (.int (S.2 11 x4.toNatClampNeg))] [] (md_H G B m S80) _
            refine q_iinc dX13_text_83 rfl rfl ?_
            show mv_rq l G mX13_text (d + 1) 86 [some (.ref m), some (.int x1), some (.int x2), some (.int 0), some (.int (x4 + 1)), some (.int (S.2 11 x4.toNatClampNeg))] [] (md_H G B m S80) _
            refine q_goto (tgt := 25) dX13_text_86 (by decide) ?_
            refine mv_weak (A := [some (.ref m), some (.int x1), some (.int x2), some (.int 0), some (.int (x4 + 1)), none]) (by repeat' constructor) ?_
            exact ro_text_l25 hG hm n hq
          ·
            have hq := md_pos c70 hq
            refine q_iload_n dX13_text_73 rfl ?_
            refine q_if_eq (tgt := 83) dX13_text_74 (by decide) (fun _ => ?_) (fun z => absurd z (by decide))
            refine q_iinc dX13_text_83 rfl rfl ?_
            show mv_rq l G mX13_text (d + 1) 86 [some (.ref m), some (.int x1), some (.int x2), some (.int 0), some (.int (x4 + 1)), some (.int (S.2 11 x4.toNatClampNeg))] [] (md_H G B m S) _
            refine q_goto (tgt := 25) dX13_text_86 (by decide) ?_
            refine mv_weak (A := [some (.ref m), some (.int x1), some (.int x2), some (.int 0), some (.int (x4 + 1)), none]) (by repeat' constructor) ?_
            exact ro_text_l25 hG hm n hq
        ·
          have hq := md_pos c53 hq
          refine q_iconst (v := 1) dX13_text_56 (by decide) ?_
          refine q_goto (tgt := 65) dX13_text_57 (by decide) ?_
          refine q_istore_n dX13_text_65 (Nat.le_of_ble_eq_true rfl) rfl ?_
          show mv_rq l G mX13_text (d + 1) 66 [some (.ref m), some (.int x1), some (.int x2), some (.int 1), some (.int x4), some (.int (S.2 11 x4.toNatClampNeg))] [] (md_H G B m S) _
          refine q_iload dX13_text_66 rfl ?_
          refine q_bipush (v := 32) dX13_text_68 (by decide) ?_
          refine q_icmp_ne (tgt := 77) dX13_text_70 (by decide) (fun c70 => ?_) (fun c70 => ?_)
          ·
            have hq := md_neg c70 hq
            refine q_aload_n dX13_text_77 rfl ?_
            refine q_iload dX13_text_78 rfl ?_
            obtain ⟨S80, e80, hq⟩ := md_c_e hq
            refine q_cV (Y := mX13_tell) (As := [.int (S.2 11 x4.toNatClampNeg)]) (st := []) (b := m) (ci := 15) vc_X13_tell dX13_text_80 ml_RX13_518 rfl md_obj rfl (Nat.le_of_ble_eq_true rfl) rfl (Nat.le_of_ble_eq_true rfl) (ro_tell (d := d) hG hm e80) (fun v h1 hq1 => ?_) (fun E h1 hq1 => md_nV hq1)
            obtain ⟨hv, rfl⟩ := hq1
            cases hv
            show mv_rq l G mX13_text (d + 1) 83 [some (.ref m), some (.int x1), some (.int x2), some (.int 1), some (.int x4), some (.int (S.2 11 x4.toNatClampNeg))] [] (md_H G B m S80) _
            refine q_iinc dX13_text_83 rfl rfl ?_
            show mv_rq l G mX13_text (d + 1) 86 [some (.ref m), some (.int x1), some (.int x2), some (.int 1), some (.int (x4 + 1)), some (.int (S.2 11 x4.toNatClampNeg))] [] (md_H G B m S80) _
            refine q_goto (tgt := 25) dX13_text_86 (by decide) ?_
            refine mv_weak (A := [some (.ref m), some (.int x1), some (.int x2), some (.int 1), some (.int (x4 + 1)), none]) (by repeat' constructor) ?_
            exact ro_text_l25 hG hm n hq
          ·
            have hq := md_pos c70 hq
            refine q_iload_n dX13_text_73 rfl ?_
            refine q_if_eq (tgt := 83) dX13_text_74 (by decide) (fun z => absurd z (by decide)) (fun _ => ?_)
            refine q_aload_n dX13_text_77 rfl ?_
            refine q_iload dX13_text_78 rfl ?_
            obtain ⟨S80, e80, hq⟩ := md_c_e hq
            refine q_cV (Y := mX13_tell) (As := [.int (S.2 11 x4.toNatClampNeg)]) (st := []) (b := m) (ci := 15) vc_X13_tell dX13_text_80 ml_RX13_518 rfl md_obj rfl (Nat.le_of_ble_eq_true rfl) rfl (Nat.le_of_ble_eq_true rfl) (ro_tell (d := d) hG hm e80) (fun v h1 hq1 => ?_) (fun E h1 hq1 => md_nV hq1)
            obtain ⟨hv, rfl⟩ := hq1
            cases hv
            show mv_rq l G mX13_text (d + 1) 83 [some (.ref m), some (.int x1), some (.int x2), some (.int 1), some (.int x4), some (.int (S.2 11 x4.toNatClampNeg))] [] (md_H G B m S80) _
            refine q_iinc dX13_text_83 rfl rfl ?_
            show mv_rq l G mX13_text (d + 1) 86 [some (.ref m), some (.int x1), some (.int x2), some (.int 1), some (.int (x4 + 1)), some (.int (S.2 11 x4.toNatClampNeg))] [] (md_H G B m S80) _
            refine q_goto (tgt := 25) dX13_text_86 (by decide) ?_
            refine mv_weak (A := [some (.ref m), some (.int x1), some (.int x2), some (.int 1), some (.int (x4 + 1)), none]) (by repeat' constructor) ?_
            exact ro_text_l25 hG hm n hq
def mo_text (N : Nat) (x1 : Int32) (x2 : Int32) (S : md_S) : Option (Int32 × md_S) :=
  md_b (mo_isNode x1 S) fun v2 S2 =>
  if v2 = 0 then
    some (0, S2)
  else
    md_l (md_p S2 84 0) fun S12 =>
    if md_in x1 41 then
    mo_text_l25 N N x1 x2 0 (S12.2 15 x1.toNatClampNeg) S12
    else none
theorem ro_text {l : Launch} {G : mv_G} {B : mv_H} {m N d : Nat} (hG : mv_ok G) (hm : G.2.2.1 ≤ m) {x1 : Int32} {x2 : Int32} {S : md_S} {q : (Int32 × md_S)} (hq : mo_text N x1 x2 S = some q) : mv_rq l G mX13_text (d + 1) 0 (mv_in [.ref m, .int x1, .int x2] 6) [] (md_H G B m S) (md_Q G B m q) := by
  unfold mo_text at hq
  show mv_rq l G mX13_text (d + 1) 0 [some (.ref m), some (.int x1), some (.int x2), none, none, none] [] (md_H G B m S) _
  refine q_aload_n dX13_text_0 rfl ?_
  refine q_iload_n dX13_text_1 rfl ?_
  obtain ⟨v2, S2, e2, hq⟩ := md_b_e hq
  refine q_cV (Y := mX13_isNode) (As := [.int x1]) (st := []) (b := m) (ci := 15) vc_X13_isNode dX13_text_2 ml_RX13_512 rfl md_obj rfl (Nat.le_of_ble_eq_true rfl) rfl (Nat.le_of_ble_eq_true rfl) (ro_isNode (d := d) hG hm e2) (fun v h1 hq1 => ?_) (fun E h1 hq1 => md_nQ hq1)
  obtain ⟨hv, rfl⟩ := hq1
  cases hv
  show mv_rq l G mX13_text (d + 1) 5 [some (.ref m), some (.int x1), some (.int x2), none, none, none] [.int v2] (md_H G B m S2) _
  refine q_if_ne (tgt := 10) dX13_text_5 (by decide) (fun c5 => ?_) (fun c5 => ?_)
  ·
    have hq := md_neg c5 hq
    refine q_aload_n dX13_text_10 rfl ?_
    refine q_iconst (v := 0) dX13_text_11 (by decide) ?_
    refine r_puti 84 .int dX13_text_12 fl_RX13_515 (by decide) rfl ki_84 rfl kp_84 rfl rfl hm (fun S12 e12 => ?_)
    have hq := md_l_e e12 hq
    clear e12
    show mv_rq l G mX13_text (d + 1) 15 [some (.ref m), some (.int x1), some (.int x2), none, none, none] [] (md_H G B m S12) _
    refine q_iconst (v := 0) dX13_text_15 (by decide) ?_
    refine q_istore_n dX13_text_16 (Nat.le_of_ble_eq_true rfl) rfl ?_
    show mv_rq l G mX13_text (d + 1) 17 [some (.ref m), some (.int x1), some (.int x2), some (.int 0), none, none] [] (md_H G B m S12) _
    refine q_aload_n dX13_text_17 rfl ?_
    refine r_geta 15 dX13_text_18 fl_RX13_33 (by decide) rfl kk_15 ?_
    refine q_iload_n dX13_text_21 rfl ?_
    obtain ⟨g22, hq⟩ := md_g hq
    refine r_iald hG 15 dX13_text_22 kk_15 g22 ?_
    refine q_istore dX13_text_23 (Nat.le_of_ble_eq_true rfl) rfl ?_
    show mv_rq l G mX13_text (d + 1) 25 [some (.ref m), some (.int x1), some (.int x2), some (.int 0), some (.int (S12.2 15 x1.toNatClampNeg)), none] [] (md_H G B m S12) _
    refine mv_weak (A := [some (.ref m), some (.int x1), some (.int x2), some (.int 0), some (.int (S12.2 15 x1.toNatClampNeg)), none]) (by repeat' constructor) ?_
    exact ro_text_l25 hG hm N hq
  ·
    have hq := md_pos c5 hq
    refine q_iconst (v := 0) dX13_text_8 (by decide) ?_
    obtain rfl := Option.some.inj hq
    exact q_iret (ty := .int) dX13_text_9 rfl rfl ⟨rfl, rfl⟩
