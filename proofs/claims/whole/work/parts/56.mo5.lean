theorem dX13_enter_0 : decode cX13_enter 0 = .ok (.aload_n 0, 1) := by decide +kernel
theorem dX13_enter_1 : decode cX13_enter 1 = .ok (.getfield 437, 3) := by decide +kernel
theorem dX13_enter_4 : decode cX13_enter 4 = .ok (.istore 4, 2) := by decide +kernel
theorem dX13_enter_6 : decode cX13_enter 6 = .ok (.aload_n 0, 1) := by decide +kernel
theorem dX13_enter_7 : decode cX13_enter 7 = .ok (.dup, 1) := by decide +kernel
theorem dX13_enter_8 : decode cX13_enter 8 = .ok (.getfield 437, 3) := by decide +kernel
theorem dX13_enter_11 : decode cX13_enter 11 = .ok (.iconst 1, 1) := by decide +kernel
theorem dX13_enter_12 : decode cX13_enter 12 = .ok (.iadd, 1) := by decide +kernel
theorem dX13_enter_13 : decode cX13_enter 13 = .ok (.putfield 437, 3) := by decide +kernel
theorem dX13_enter_16 : decode cX13_enter 16 = .ok (.aload_n 0, 1) := by decide +kernel
theorem dX13_enter_17 : decode cX13_enter 17 = .ok (.getfield 130, 3) := by decide +kernel
theorem dX13_enter_20 : decode cX13_enter 20 = .ok (.iload 4, 2) := by decide +kernel
theorem dX13_enter_22 : decode cX13_enter 22 = .ok (.iconst 0, 1) := by decide +kernel
theorem dX13_enter_23 : decode cX13_enter 23 = .ok (.iastore, 1) := by decide +kernel
theorem dX13_enter_24 : decode cX13_enter 24 = .ok (.aload_n 0, 1) := by decide +kernel
theorem dX13_enter_25 : decode cX13_enter 25 = .ok (.getfield 133, 3) := by decide +kernel
theorem dX13_enter_28 : decode cX13_enter 28 = .ok (.iload 4, 2) := by decide +kernel
theorem dX13_enter_30 : decode cX13_enter 30 = .ok (.iload_n 3, 1) := by decide +kernel
theorem dX13_enter_31 : decode cX13_enter 31 = .ok (.iastore, 1) := by decide +kernel
theorem dX13_enter_32 : decode cX13_enter 32 = .ok (.aload_n 0, 1) := by decide +kernel
theorem dX13_enter_33 : decode cX13_enter 33 = .ok (.getfield 136, 3) := by decide +kernel
theorem dX13_enter_36 : decode cX13_enter 36 = .ok (.iload 4, 2) := by decide +kernel
theorem dX13_enter_38 : decode cX13_enter 38 = .ok (.aload_n 0, 1) := by decide +kernel
theorem dX13_enter_39 : decode cX13_enter 39 = .ok (.getfield 57, 3) := by decide +kernel
theorem dX13_enter_42 : decode cX13_enter 42 = .ok (.iload_n 1, 1) := by decide +kernel
theorem dX13_enter_43 : decode cX13_enter 43 = .ok (.iaload, 1) := by decide +kernel
theorem dX13_enter_44 : decode cX13_enter 44 = .ok (.iastore, 1) := by decide +kernel
theorem dX13_enter_45 : decode cX13_enter 45 = .ok (.aload_n 0, 1) := by decide +kernel
theorem dX13_enter_46 : decode cX13_enter 46 = .ok (.getfield 160, 3) := by decide +kernel
theorem dX13_enter_49 : decode cX13_enter 49 = .ok (.iload 4, 2) := by decide +kernel
theorem dX13_enter_51 : decode cX13_enter 51 = .ok (.iconst 1, 1) := by decide +kernel
theorem dX13_enter_52 : decode cX13_enter 52 = .ok (.iastore, 1) := by decide +kernel
theorem dX13_enter_53 : decode cX13_enter 53 = .ok (.aload_n 0, 1) := by decide +kernel
theorem dX13_enter_54 : decode cX13_enter 54 = .ok (.getfield 166, 3) := by decide +kernel
theorem dX13_enter_57 : decode cX13_enter 57 = .ok (.sipush 300, 3) := by decide +kernel
theorem dX13_enter_60 : decode cX13_enter 60 = .ok (.iload 4, 2) := by decide +kernel
theorem dX13_enter_62 : decode cX13_enter 62 = .ok (.imul, 1) := by decide +kernel
theorem dX13_enter_63 : decode cX13_enter 63 = .ok (.iload_n 2, 1) := by decide +kernel
theorem dX13_enter_64 : decode cX13_enter 64 = .ok (.iastore, 1) := by decide +kernel
theorem dX13_enter_65 : decode cX13_enter 65 = .ok (.return_, 1) := by decide +kernel
theorem dX13_value_0 : decode cX13_value 0 = .ok (.aload_n 0, 1) := by decide +kernel
theorem dX13_value_1 : decode cX13_value 1 = .ok (.getfield 172, 3) := by decide +kernel
theorem dX13_value_4 : decode cX13_value 4 = .ok (.aload_n 0, 1) := by decide +kernel
theorem dX13_value_5 : decode cX13_value 5 = .ok (.getfield 440, 3) := by decide +kernel
theorem dX13_value_8 : decode cX13_value 8 = .ok (.iload_n 1, 1) := by decide +kernel
theorem dX13_value_9 : decode cX13_value 9 = .ok (.iastore, 1) := by decide +kernel
theorem dX13_value_10 : decode cX13_value 10 = .ok (.aload_n 0, 1) := by decide +kernel
theorem dX13_value_11 : decode cX13_value 11 = .ok (.getfield 175, 3) := by decide +kernel
theorem dX13_value_14 : decode cX13_value 14 = .ok (.aload_n 0, 1) := by decide +kernel
theorem dX13_value_15 : decode cX13_value 15 = .ok (.getfield 440, 3) := by decide +kernel
theorem dX13_value_18 : decode cX13_value 18 = .ok (.iload_n 2, 1) := by decide +kernel
theorem dX13_value_19 : decode cX13_value 19 = .ok (.iastore, 1) := by decide +kernel
theorem dX13_value_20 : decode cX13_value 20 = .ok (.aload_n 0, 1) := by decide +kernel
theorem dX13_value_21 : decode cX13_value 21 = .ok (.getfield 178, 3) := by decide +kernel
theorem dX13_value_24 : decode cX13_value 24 = .ok (.aload_n 0, 1) := by decide +kernel
theorem dX13_value_25 : decode cX13_value 25 = .ok (.getfield 440, 3) := by decide +kernel
theorem dX13_value_28 : decode cX13_value 28 = .ok (.iload_n 3, 1) := by decide +kernel
theorem dX13_value_29 : decode cX13_value 29 = .ok (.iastore, 1) := by decide +kernel
theorem dX13_value_30 : decode cX13_value 30 = .ok (.aload_n 0, 1) := by decide +kernel
theorem dX13_value_31 : decode cX13_value 31 = .ok (.dup, 1) := by decide +kernel
theorem dX13_value_32 : decode cX13_value 32 = .ok (.getfield 440, 3) := by decide +kernel
theorem dX13_value_35 : decode cX13_value 35 = .ok (.iconst 1, 1) := by decide +kernel
theorem dX13_value_36 : decode cX13_value 36 = .ok (.iadd, 1) := by decide +kernel
theorem dX13_value_37 : decode cX13_value 37 = .ok (.putfield 440, 3) := by decide +kernel
theorem dX13_value_40 : decode cX13_value 40 = .ok (.return_, 1) := by decide +kernel
theorem dX13_nodeValue_0 : decode cX13_nodeValue 0 = .ok (.aload_n 0, 1) := by decide +kernel
theorem dX13_nodeValue_1 : decode cX13_nodeValue 1 = .ok (.getfield 23, 3) := by decide +kernel
theorem dX13_nodeValue_4 : decode cX13_nodeValue 4 = .ok (.iload_n 1, 1) := by decide +kernel
theorem dX13_nodeValue_5 : decode cX13_nodeValue 5 = .ok (.iaload, 1) := by decide +kernel
theorem dX13_nodeValue_6 : decode cX13_nodeValue 6 = .ok (.istore_n 2, 1) := by decide +kernel
theorem dX13_nodeValue_7 : decode cX13_nodeValue 7 = .ok (.iload_n 2, 1) := by decide +kernel
theorem dX13_nodeValue_8 : decode cX13_nodeValue 8 = .ok (.iconst 3, 1) := by decide +kernel
theorem dX13_nodeValue_9 : decode cX13_nodeValue 9 = .ok (.if_icmp .ne 18, 3) := by decide +kernel
theorem dX13_nodeValue_12 : decode cX13_nodeValue 12 = .ok (.aload_n 0, 1) := by decide +kernel
theorem dX13_nodeValue_13 : decode cX13_nodeValue 13 = .ok (.iconst 3, 1) := by decide +kernel
theorem dX13_nodeValue_14 : decode cX13_nodeValue 14 = .ok (.aload_n 0, 1) := by decide +kernel
theorem dX13_nodeValue_15 : decode cX13_nodeValue 15 = .ok (.getfield 39, 3) := by decide +kernel
theorem dX13_nodeValue_18 : decode cX13_nodeValue 18 = .ok (.iload_n 1, 1) := by decide +kernel
theorem dX13_nodeValue_19 : decode cX13_nodeValue 19 = .ok (.iaload, 1) := by decide +kernel
theorem dX13_nodeValue_20 : decode cX13_nodeValue 20 = .ok (.iconst 0, 1) := by decide +kernel
theorem dX13_nodeValue_21 : decode cX13_nodeValue 21 = .ok (.invokevirtual 443, 3) := by decide +kernel
theorem dX13_nodeValue_24 : decode cX13_nodeValue 24 = .ok (.goto 37, 3) := by decide +kernel
theorem dX13_nodeValue_27 : decode cX13_nodeValue 27 = .ok (.iload_n 2, 1) := by decide +kernel
theorem dX13_nodeValue_28 : decode cX13_nodeValue 28 = .ok (.iconst 4, 1) := by decide +kernel
theorem dX13_nodeValue_29 : decode cX13_nodeValue 29 = .ok (.if_icmp .ne 25, 3) := by decide +kernel
theorem dX13_nodeValue_32 : decode cX13_nodeValue 32 = .ok (.aload_n 0, 1) := by decide +kernel
theorem dX13_nodeValue_33 : decode cX13_nodeValue 33 = .ok (.iconst 4, 1) := by decide +kernel
theorem dX13_nodeValue_34 : decode cX13_nodeValue 34 = .ok (.aload_n 0, 1) := by decide +kernel
theorem dX13_nodeValue_35 : decode cX13_nodeValue 35 = .ok (.getfield 33, 3) := by decide +kernel
theorem dX13_nodeValue_38 : decode cX13_nodeValue 38 = .ok (.iload_n 1, 1) := by decide +kernel
theorem dX13_nodeValue_39 : decode cX13_nodeValue 39 = .ok (.iaload, 1) := by decide +kernel
theorem dX13_nodeValue_40 : decode cX13_nodeValue 40 = .ok (.iconst 1, 1) := by decide +kernel
theorem dX13_nodeValue_41 : decode cX13_nodeValue 41 = .ok (.iadd, 1) := by decide +kernel
theorem dX13_nodeValue_42 : decode cX13_nodeValue 42 = .ok (.aload_n 0, 1) := by decide +kernel
theorem dX13_nodeValue_43 : decode cX13_nodeValue 43 = .ok (.getfield 39, 3) := by decide +kernel
theorem dX13_nodeValue_46 : decode cX13_nodeValue 46 = .ok (.iload_n 1, 1) := by decide +kernel
theorem dX13_nodeValue_47 : decode cX13_nodeValue 47 = .ok (.iaload, 1) := by decide +kernel
theorem dX13_nodeValue_48 : decode cX13_nodeValue 48 = .ok (.invokevirtual 443, 3) := by decide +kernel
theorem dX13_nodeValue_51 : decode cX13_nodeValue 51 = .ok (.goto 10, 3) := by decide +kernel
theorem dX13_nodeValue_54 : decode cX13_nodeValue 54 = .ok (.aload_n 0, 1) := by decide +kernel
theorem dX13_nodeValue_55 : decode cX13_nodeValue 55 = .ok (.iload_n 2, 1) := by decide +kernel
theorem dX13_nodeValue_56 : decode cX13_nodeValue 56 = .ok (.iload_n 1, 1) := by decide +kernel
theorem dX13_nodeValue_57 : decode cX13_nodeValue 57 = .ok (.iconst 0, 1) := by decide +kernel
theorem dX13_nodeValue_58 : decode cX13_nodeValue 58 = .ok (.invokevirtual 443, 3) := by decide +kernel
theorem dX13_nodeValue_61 : decode cX13_nodeValue 61 = .ok (.return_, 1) := by decide +kernel
theorem dX13_leave_0 : decode cX13_leave 0 = .ok (.aload_n 0, 1) := by decide +kernel
theorem dX13_leave_1 : decode cX13_leave 1 = .ok (.dup, 1) := by decide +kernel
theorem dX13_leave_2 : decode cX13_leave 2 = .ok (.getfield 437, 3) := by decide +kernel
theorem dX13_leave_5 : decode cX13_leave 5 = .ok (.iconst 1, 1) := by decide +kernel
theorem dX13_leave_6 : decode cX13_leave 6 = .ok (.isub, 1) := by decide +kernel
theorem dX13_leave_7 : decode cX13_leave 7 = .ok (.putfield 437, 3) := by decide +kernel
theorem dX13_leave_10 : decode cX13_leave 10 = .ok (.aload_n 0, 1) := by decide +kernel
theorem dX13_leave_11 : decode cX13_leave 11 = .ok (.getfield 160, 3) := by decide +kernel
theorem dX13_leave_14 : decode cX13_leave 14 = .ok (.iload_n 1, 1) := by decide +kernel
theorem dX13_leave_15 : decode cX13_leave 15 = .ok (.iaload, 1) := by decide +kernel
theorem dX13_leave_16 : decode cX13_leave 16 = .ok (.istore_n 2, 1) := by decide +kernel
theorem dX13_leave_17 : decode cX13_leave 17 = .ok (.aload_n 0, 1) := by decide +kernel
theorem dX13_leave_18 : decode cX13_leave 18 = .ok (.getfield 133, 3) := by decide +kernel
theorem dX13_leave_21 : decode cX13_leave 21 = .ok (.iload_n 1, 1) := by decide +kernel
theorem dX13_leave_22 : decode cX13_leave 22 = .ok (.iaload, 1) := by decide +kernel
theorem dX13_leave_23 : decode cX13_leave 23 = .ok (.tableswitch 90 0 3 #[29, 62, 90, 80], 29) := by decide +kernel
theorem dX13_leave_52 : decode cX13_leave 52 = .ok (.aload_n 0, 1) := by decide +kernel
theorem dX13_leave_53 : decode cX13_leave 53 = .ok (.iload_n 2, 1) := by decide +kernel
theorem dX13_leave_54 : decode cX13_leave 54 = .ok (.putfield 304, 3) := by decide +kernel
theorem dX13_leave_57 : decode cX13_leave 57 = .ok (.iconst 0, 1) := by decide +kernel
theorem dX13_leave_58 : decode cX13_leave 58 = .ok (.istore_n 3, 1) := by decide +kernel
theorem dX13_leave_59 : decode cX13_leave 59 = .ok (.iload_n 3, 1) := by decide +kernel
theorem dX13_leave_60 : decode cX13_leave 60 = .ok (.iload_n 2, 1) := by decide +kernel
theorem dX13_leave_61 : decode cX13_leave 61 = .ok (.if_icmp .ge 21, 3) := by decide +kernel
theorem dX13_leave_64 : decode cX13_leave 64 = .ok (.aload_n 0, 1) := by decide +kernel
theorem dX13_leave_65 : decode cX13_leave 65 = .ok (.getfield 187, 3) := by decide +kernel
theorem dX13_leave_68 : decode cX13_leave 68 = .ok (.iload_n 3, 1) := by decide +kernel
theorem dX13_leave_69 : decode cX13_leave 69 = .ok (.aload_n 0, 1) := by decide +kernel
theorem dX13_leave_70 : decode cX13_leave 70 = .ok (.getfield 166, 3) := by decide +kernel
theorem dX13_leave_73 : decode cX13_leave 73 = .ok (.iload_n 3, 1) := by decide +kernel
theorem dX13_leave_74 : decode cX13_leave 74 = .ok (.iaload, 1) := by decide +kernel
theorem dX13_leave_75 : decode cX13_leave 75 = .ok (.iastore, 1) := by decide +kernel
theorem dX13_leave_76 : decode cX13_leave 76 = .ok (.iinc 3 1, 3) := by decide +kernel
theorem dX13_leave_79 : decode cX13_leave 79 = .ok (.goto (-20), 3) := by decide +kernel
theorem dX13_leave_82 : decode cX13_leave 82 = .ok (.goto 60, 3) := by decide +kernel
theorem dX13_leave_85 : decode cX13_leave 85 = .ok (.aload_n 0, 1) := by decide +kernel
theorem dX13_leave_86 : decode cX13_leave 86 = .ok (.iload_n 2, 1) := by decide +kernel
theorem dX13_leave_87 : decode cX13_leave 87 = .ok (.ifCond .le 7, 3) := by decide +kernel
theorem dX13_leave_90 : decode cX13_leave 90 = .ok (.iconst 2, 1) := by decide +kernel
theorem dX13_leave_91 : decode cX13_leave 91 = .ok (.goto 4, 3) := by decide +kernel
theorem dX13_leave_94 : decode cX13_leave 94 = .ok (.iconst 1, 1) := by decide +kernel
theorem dX13_leave_95 : decode cX13_leave 95 = .ok (.iconst 0, 1) := by decide +kernel
theorem dX13_leave_96 : decode cX13_leave 96 = .ok (.iconst 0, 1) := by decide +kernel
theorem dX13_leave_97 : decode cX13_leave 97 = .ok (.invokevirtual 443, 3) := by decide +kernel
theorem dX13_leave_100 : decode cX13_leave 100 = .ok (.goto 42, 3) := by decide +kernel
theorem dX13_leave_103 : decode cX13_leave 103 = .ok (.aload_n 0, 1) := by decide +kernel
theorem dX13_leave_104 : decode cX13_leave 104 = .ok (.iconst 3, 1) := by decide +kernel
theorem dX13_leave_105 : decode cX13_leave 105 = .ok (.iload_n 2, 1) := by decide +kernel
theorem dX13_leave_106 : decode cX13_leave 106 = .ok (.iconst 0, 1) := by decide +kernel
theorem dX13_leave_107 : decode cX13_leave 107 = .ok (.invokevirtual 443, 3) := by decide +kernel
theorem dX13_leave_110 : decode cX13_leave 110 = .ok (.goto 32, 3) := by decide +kernel
theorem dX13_leave_113 : decode cX13_leave 113 = .ok (.iload_n 2, 1) := by decide +kernel
theorem dX13_leave_114 : decode cX13_leave 114 = .ok (.ifCond .ne 14, 3) := by decide +kernel
theorem dX13_leave_117 : decode cX13_leave 117 = .ok (.aload_n 0, 1) := by decide +kernel
theorem dX13_leave_118 : decode cX13_leave 118 = .ok (.bipush 7, 2) := by decide +kernel
theorem dX13_leave_120 : decode cX13_leave 120 = .ok (.iconst 0, 1) := by decide +kernel
theorem dX13_leave_121 : decode cX13_leave 121 = .ok (.iconst 0, 1) := by decide +kernel
theorem dX13_leave_122 : decode cX13_leave 122 = .ok (.invokevirtual 443, 3) := by decide +kernel
theorem dX13_leave_125 : decode cX13_leave 125 = .ok (.goto 17, 3) := by decide +kernel
theorem dX13_leave_128 : decode cX13_leave 128 = .ok (.aload_n 0, 1) := by decide +kernel
theorem dX13_leave_129 : decode cX13_leave 129 = .ok (.aload_n 0, 1) := by decide +kernel
theorem dX13_leave_130 : decode cX13_leave 130 = .ok (.getfield 166, 3) := by decide +kernel
theorem dX13_leave_133 : decode cX13_leave 133 = .ok (.sipush 300, 3) := by decide +kernel
theorem dX13_leave_136 : decode cX13_leave 136 = .ok (.iload_n 1, 1) := by decide +kernel
theorem dX13_leave_137 : decode cX13_leave 137 = .ok (.imul, 1) := by decide +kernel
theorem dX13_leave_138 : decode cX13_leave 138 = .ok (.iaload, 1) := by decide +kernel
theorem dX13_leave_139 : decode cX13_leave 139 = .ok (.invokevirtual 446, 3) := by decide +kernel
theorem dX13_leave_142 : decode cX13_leave 142 = .ok (.return_, 1) := by decide +kernel
theorem dX13_stepNode_0 : decode cX13_stepNode 0 = .ok (.aload_n 0, 1) := by decide +kernel
theorem dX13_stepNode_1 : decode cX13_stepNode 1 = .ok (.getfield 139, 3) := by decide +kernel
theorem dX13_stepNode_4 : decode cX13_stepNode 4 = .ok (.iload_n 1, 1) := by decide +kernel
theorem dX13_stepNode_5 : decode cX13_stepNode 5 = .ok (.iaload, 1) := by decide +kernel
theorem dX13_stepNode_6 : decode cX13_stepNode 6 = .ok (.ifCond .lt 50, 3) := by decide +kernel
theorem dX13_stepNode_9 : decode cX13_stepNode 9 = .ok (.aload_n 0, 1) := by decide +kernel
theorem dX13_stepNode_10 : decode cX13_stepNode 10 = .ok (.getfield 82, 3) := by decide +kernel
theorem dX13_stepNode_13 : decode cX13_stepNode 13 = .ok (.aload_n 0, 1) := by decide +kernel
theorem dX13_stepNode_14 : decode cX13_stepNode 14 = .ok (.getfield 136, 3) := by decide +kernel
theorem dX13_stepNode_17 : decode cX13_stepNode 17 = .ok (.iload_n 1, 1) := by decide +kernel
theorem dX13_stepNode_18 : decode cX13_stepNode 18 = .ok (.iaload, 1) := by decide +kernel
theorem dX13_stepNode_19 : decode cX13_stepNode 19 = .ok (.baload, 1) := by decide +kernel
theorem dX13_stepNode_20 : decode cX13_stepNode 20 = .ok (.ifCond .eq 36, 3) := by decide +kernel
theorem dX13_stepNode_23 : decode cX13_stepNode 23 = .ok (.aload_n 0, 1) := by decide +kernel
theorem dX13_stepNode_24 : decode cX13_stepNode 24 = .ok (.getfield 145, 3) := by decide +kernel
theorem dX13_stepNode_27 : decode cX13_stepNode 27 = .ok (.iload_n 1, 1) := by decide +kernel
theorem dX13_stepNode_28 : decode cX13_stepNode 28 = .ok (.iaload, 1) := by decide +kernel
theorem dX13_stepNode_29 : decode cX13_stepNode 29 = .ok (.aload_n 0, 1) := by decide +kernel
theorem dX13_stepNode_30 : decode cX13_stepNode 30 = .ok (.getfield 30, 3) := by decide +kernel
theorem dX13_stepNode_33 : decode cX13_stepNode 33 = .ok (.aload_n 0, 1) := by decide +kernel
theorem dX13_stepNode_34 : decode cX13_stepNode 34 = .ok (.getfield 142, 3) := by decide +kernel
theorem dX13_stepNode_37 : decode cX13_stepNode 37 = .ok (.iload_n 1, 1) := by decide +kernel
theorem dX13_stepNode_38 : decode cX13_stepNode 38 = .ok (.iaload, 1) := by decide +kernel
theorem dX13_stepNode_39 : decode cX13_stepNode 39 = .ok (.iaload, 1) := by decide +kernel
theorem dX13_stepNode_40 : decode cX13_stepNode 40 = .ok (.if_icmp .ge 16, 3) := by decide +kernel
theorem dX13_stepNode_43 : decode cX13_stepNode 43 = .ok (.aload_n 0, 1) := by decide +kernel
theorem dX13_stepNode_44 : decode cX13_stepNode 44 = .ok (.getfield 145, 3) := by decide +kernel
theorem dX13_stepNode_47 : decode cX13_stepNode 47 = .ok (.iload_n 1, 1) := by decide +kernel
theorem dX13_stepNode_48 : decode cX13_stepNode 48 = .ok (.dup2, 1) := by decide +kernel
theorem dX13_stepNode_49 : decode cX13_stepNode 49 = .ok (.iaload, 1) := by decide +kernel
theorem dX13_stepNode_50 : decode cX13_stepNode 50 = .ok (.iconst 1, 1) := by decide +kernel
theorem dX13_stepNode_51 : decode cX13_stepNode 51 = .ok (.iadd, 1) := by decide +kernel
theorem dX13_stepNode_52 : decode cX13_stepNode 52 = .ok (.iastore, 1) := by decide +kernel
theorem dX13_stepNode_53 : decode cX13_stepNode 53 = .ok (.goto 142, 3) := by decide +kernel
theorem dX13_stepNode_56 : decode cX13_stepNode 56 = .ok (.aload_n 0, 1) := by decide +kernel
theorem dX13_stepNode_57 : decode cX13_stepNode 57 = .ok (.getfield 139, 3) := by decide +kernel
theorem dX13_stepNode_60 : decode cX13_stepNode 60 = .ok (.iload_n 1, 1) := by decide +kernel
theorem dX13_stepNode_61 : decode cX13_stepNode 61 = .ok (.dup2, 1) := by decide +kernel
theorem dX13_stepNode_62 : decode cX13_stepNode 62 = .ok (.iaload, 1) := by decide +kernel
theorem dX13_stepNode_63 : decode cX13_stepNode 63 = .ok (.iconst 1, 1) := by decide +kernel
theorem dX13_stepNode_64 : decode cX13_stepNode 64 = .ok (.iadd, 1) := by decide +kernel
theorem dX13_stepNode_65 : decode cX13_stepNode 65 = .ok (.iastore, 1) := by decide +kernel
theorem dX13_stepNode_66 : decode cX13_stepNode 66 = .ok (.aload_n 0, 1) := by decide +kernel
theorem dX13_stepNode_67 : decode cX13_stepNode 67 = .ok (.getfield 139, 3) := by decide +kernel
theorem dX13_stepNode_70 : decode cX13_stepNode 70 = .ok (.iload_n 1, 1) := by decide +kernel
theorem dX13_stepNode_71 : decode cX13_stepNode 71 = .ok (.iaload, 1) := by decide +kernel
theorem dX13_stepNode_72 : decode cX13_stepNode 72 = .ok (.aload_n 0, 1) := by decide +kernel
theorem dX13_stepNode_73 : decode cX13_stepNode 73 = .ok (.getfield 160, 3) := by decide +kernel
theorem dX13_stepNode_76 : decode cX13_stepNode 76 = .ok (.iload_n 1, 1) := by decide +kernel
theorem dX13_stepNode_77 : decode cX13_stepNode 77 = .ok (.iaload, 1) := by decide +kernel
theorem dX13_stepNode_78 : decode cX13_stepNode 78 = .ok (.if_icmp .ne 82, 3) := by decide +kernel
theorem dX13_stepNode_81 : decode cX13_stepNode 81 = .ok (.iconst 0, 1) := by decide +kernel
theorem dX13_stepNode_82 : decode cX13_stepNode 82 = .ok (.istore_n 2, 1) := by decide +kernel
theorem dX13_stepNode_83 : decode cX13_stepNode 83 = .ok (.iload_n 2, 1) := by decide +kernel
theorem dX13_stepNode_84 : decode cX13_stepNode 84 = .ok (.aload_n 0, 1) := by decide +kernel
theorem dX13_stepNode_85 : decode cX13_stepNode 85 = .ok (.getfield 163, 3) := by decide +kernel
theorem dX13_stepNode_88 : decode cX13_stepNode 88 = .ok (.iload_n 1, 1) := by decide +kernel
theorem dX13_stepNode_89 : decode cX13_stepNode 89 = .ok (.iaload, 1) := by decide +kernel
theorem dX13_stepNode_90 : decode cX13_stepNode 90 = .ok (.if_icmp .ge 33, 3) := by decide +kernel
theorem dX13_stepNode_93 : decode cX13_stepNode 93 = .ok (.aload_n 0, 1) := by decide +kernel
theorem dX13_stepNode_94 : decode cX13_stepNode 94 = .ok (.getfield 166, 3) := by decide +kernel
theorem dX13_stepNode_97 : decode cX13_stepNode 97 = .ok (.sipush 300, 3) := by decide +kernel
theorem dX13_stepNode_100 : decode cX13_stepNode 100 = .ok (.iload_n 1, 1) := by decide +kernel
theorem dX13_stepNode_101 : decode cX13_stepNode 101 = .ok (.imul, 1) := by decide +kernel
theorem dX13_stepNode_102 : decode cX13_stepNode 102 = .ok (.iload_n 2, 1) := by decide +kernel
theorem dX13_stepNode_103 : decode cX13_stepNode 103 = .ok (.iadd, 1) := by decide +kernel
theorem dX13_stepNode_104 : decode cX13_stepNode 104 = .ok (.aload_n 0, 1) := by decide +kernel
theorem dX13_stepNode_105 : decode cX13_stepNode 105 = .ok (.getfield 169, 3) := by decide +kernel
theorem dX13_stepNode_108 : decode cX13_stepNode 108 = .ok (.sipush 300, 3) := by decide +kernel
theorem dX13_stepNode_111 : decode cX13_stepNode 111 = .ok (.iload_n 1, 1) := by decide +kernel
theorem dX13_stepNode_112 : decode cX13_stepNode 112 = .ok (.imul, 1) := by decide +kernel
theorem dX13_stepNode_113 : decode cX13_stepNode 113 = .ok (.iload_n 2, 1) := by decide +kernel
theorem dX13_stepNode_114 : decode cX13_stepNode 114 = .ok (.iadd, 1) := by decide +kernel
theorem dX13_stepNode_115 : decode cX13_stepNode 115 = .ok (.iaload, 1) := by decide +kernel
theorem dX13_stepNode_116 : decode cX13_stepNode 116 = .ok (.iastore, 1) := by decide +kernel
theorem dX13_stepNode_117 : decode cX13_stepNode 117 = .ok (.iinc 2 1, 3) := by decide +kernel
theorem dX13_stepNode_120 : decode cX13_stepNode 120 = .ok (.goto (-37), 3) := by decide +kernel
theorem dX13_stepNode_123 : decode cX13_stepNode 123 = .ok (.aload_n 0, 1) := by decide +kernel
theorem dX13_stepNode_124 : decode cX13_stepNode 124 = .ok (.getfield 160, 3) := by decide +kernel
theorem dX13_stepNode_127 : decode cX13_stepNode 127 = .ok (.iload_n 1, 1) := by decide +kernel
theorem dX13_stepNode_128 : decode cX13_stepNode 128 = .ok (.aload_n 0, 1) := by decide +kernel
theorem dX13_stepNode_129 : decode cX13_stepNode 129 = .ok (.getfield 163, 3) := by decide +kernel
theorem dX13_stepNode_132 : decode cX13_stepNode 132 = .ok (.iload_n 1, 1) := by decide +kernel
theorem dX13_stepNode_133 : decode cX13_stepNode 133 = .ok (.iaload, 1) := by decide +kernel
theorem dX13_stepNode_134 : decode cX13_stepNode 134 = .ok (.iastore, 1) := by decide +kernel
theorem dX13_stepNode_135 : decode cX13_stepNode 135 = .ok (.aload_n 0, 1) := by decide +kernel
theorem dX13_stepNode_136 : decode cX13_stepNode 136 = .ok (.getfield 136, 3) := by decide +kernel
theorem dX13_stepNode_139 : decode cX13_stepNode 139 = .ok (.iload_n 1, 1) := by decide +kernel
theorem dX13_stepNode_140 : decode cX13_stepNode 140 = .ok (.aload_n 0, 1) := by decide +kernel
theorem dX13_stepNode_141 : decode cX13_stepNode 141 = .ok (.getfield 67, 3) := by decide +kernel
theorem dX13_stepNode_144 : decode cX13_stepNode 144 = .ok (.aload_n 0, 1) := by decide +kernel
theorem dX13_stepNode_145 : decode cX13_stepNode 145 = .ok (.getfield 136, 3) := by decide +kernel
theorem dX13_stepNode_148 : decode cX13_stepNode 148 = .ok (.iload_n 1, 1) := by decide +kernel
theorem dX13_stepNode_149 : decode cX13_stepNode 149 = .ok (.iaload, 1) := by decide +kernel
theorem dX13_stepNode_150 : decode cX13_stepNode 150 = .ok (.iaload, 1) := by decide +kernel
theorem dX13_stepNode_151 : decode cX13_stepNode 151 = .ok (.iastore, 1) := by decide +kernel
theorem dX13_stepNode_152 : decode cX13_stepNode 152 = .ok (.aload_n 0, 1) := by decide +kernel
theorem dX13_stepNode_153 : decode cX13_stepNode 153 = .ok (.getfield 130, 3) := by decide +kernel
theorem dX13_stepNode_156 : decode cX13_stepNode 156 = .ok (.iload_n 1, 1) := by decide +kernel
theorem dX13_stepNode_157 : decode cX13_stepNode 157 = .ok (.iconst 0, 1) := by decide +kernel
theorem dX13_stepNode_158 : decode cX13_stepNode 158 = .ok (.iastore, 1) := by decide +kernel
theorem dX13_stepNode_159 : decode cX13_stepNode 159 = .ok (.return_, 1) := by decide +kernel
theorem dX13_stepNode_160 : decode cX13_stepNode 160 = .ok (.aload_n 0, 1) := by decide +kernel
theorem dX13_stepNode_161 : decode cX13_stepNode 161 = .ok (.getfield 142, 3) := by decide +kernel
theorem dX13_stepNode_164 : decode cX13_stepNode 164 = .ok (.iload_n 1, 1) := by decide +kernel
theorem dX13_stepNode_165 : decode cX13_stepNode 165 = .ok (.aload_n 0, 1) := by decide +kernel
theorem dX13_stepNode_166 : decode cX13_stepNode 166 = .ok (.getfield 166, 3) := by decide +kernel
theorem dX13_stepNode_169 : decode cX13_stepNode 169 = .ok (.sipush 300, 3) := by decide +kernel
theorem dX13_stepNode_172 : decode cX13_stepNode 172 = .ok (.iload_n 1, 1) := by decide +kernel
theorem dX13_stepNode_173 : decode cX13_stepNode 173 = .ok (.imul, 1) := by decide +kernel
theorem dX13_stepNode_174 : decode cX13_stepNode 174 = .ok (.aload_n 0, 1) := by decide +kernel
theorem dX13_stepNode_175 : decode cX13_stepNode 175 = .ok (.getfield 139, 3) := by decide +kernel
theorem dX13_stepNode_178 : decode cX13_stepNode 178 = .ok (.iload_n 1, 1) := by decide +kernel
theorem dX13_stepNode_179 : decode cX13_stepNode 179 = .ok (.iaload, 1) := by decide +kernel
theorem dX13_stepNode_180 : decode cX13_stepNode 180 = .ok (.iadd, 1) := by decide +kernel
theorem dX13_stepNode_181 : decode cX13_stepNode 181 = .ok (.iaload, 1) := by decide +kernel
theorem dX13_stepNode_182 : decode cX13_stepNode 182 = .ok (.iastore, 1) := by decide +kernel
theorem dX13_stepNode_183 : decode cX13_stepNode 183 = .ok (.aload_n 0, 1) := by decide +kernel
theorem dX13_stepNode_184 : decode cX13_stepNode 184 = .ok (.getfield 145, 3) := by decide +kernel
theorem dX13_stepNode_187 : decode cX13_stepNode 187 = .ok (.iload_n 1, 1) := by decide +kernel
theorem dX13_stepNode_188 : decode cX13_stepNode 188 = .ok (.aload_n 0, 1) := by decide +kernel
theorem dX13_stepNode_189 : decode cX13_stepNode 189 = .ok (.getfield 142, 3) := by decide +kernel
theorem dX13_stepNode_192 : decode cX13_stepNode 192 = .ok (.iload_n 1, 1) := by decide +kernel
theorem dX13_stepNode_193 : decode cX13_stepNode 193 = .ok (.iaload, 1) := by decide +kernel
theorem dX13_stepNode_194 : decode cX13_stepNode 194 = .ok (.iastore, 1) := by decide +kernel
theorem dX13_stepNode_195 : decode cX13_stepNode 195 = .ok (.aload_n 0, 1) := by decide +kernel
theorem dX13_stepNode_196 : decode cX13_stepNode 196 = .ok (.dup, 1) := by decide +kernel
theorem dX13_stepNode_197 : decode cX13_stepNode 197 = .ok (.getfield 449, 3) := by decide +kernel
theorem dX13_stepNode_200 : decode cX13_stepNode 200 = .ok (.iconst 1, 1) := by decide +kernel
theorem dX13_stepNode_201 : decode cX13_stepNode 201 = .ok (.iadd, 1) := by decide +kernel
theorem dX13_stepNode_202 : decode cX13_stepNode 202 = .ok (.putfield 449, 3) := by decide +kernel
theorem dX13_stepNode_205 : decode cX13_stepNode 205 = .ok (.aload_n 0, 1) := by decide +kernel
theorem dX13_stepNode_206 : decode cX13_stepNode 206 = .ok (.aload_n 0, 1) := by decide +kernel
theorem dX13_stepNode_207 : decode cX13_stepNode 207 = .ok (.getfield 419, 3) := by decide +kernel
theorem dX13_stepNode_210 : decode cX13_stepNode 210 = .ok (.ifCond .ne 13, 3) := by decide +kernel
theorem dX13_stepNode_213 : decode cX13_stepNode 213 = .ok (.aload_n 0, 1) := by decide +kernel
theorem dX13_stepNode_214 : decode cX13_stepNode 214 = .ok (.getfield 449, 3) := by decide +kernel
theorem dX13_stepNode_217 : decode cX13_stepNode 217 = .ok (.ldc_w 452, 3) := by decide +kernel
theorem dX13_stepNode_220 : decode cX13_stepNode 220 = .ok (.if_icmp .le 7, 3) := by decide +kernel
theorem dX13_stepNode_223 : decode cX13_stepNode 223 = .ok (.iconst 1, 1) := by decide +kernel
theorem dX13_stepNode_224 : decode cX13_stepNode 224 = .ok (.goto 4, 3) := by decide +kernel
theorem dX13_stepNode_227 : decode cX13_stepNode 227 = .ok (.iconst 0, 1) := by decide +kernel
theorem dX13_stepNode_228 : decode cX13_stepNode 228 = .ok (.putfield 419, 3) := by decide +kernel
theorem dX13_stepNode_231 : decode cX13_stepNode 231 = .ok (.aload_n 0, 1) := by decide +kernel
theorem dX13_stepNode_232 : decode cX13_stepNode 232 = .ok (.getfield 148, 3) := by decide +kernel
theorem dX13_stepNode_235 : decode cX13_stepNode 235 = .ok (.iload_n 1, 1) := by decide +kernel
theorem dX13_stepNode_236 : decode cX13_stepNode 236 = .ok (.aload_n 0, 1) := by decide +kernel
theorem dX13_stepNode_237 : decode cX13_stepNode 237 = .ok (.getfield 70, 3) := by decide +kernel
theorem dX13_stepNode_240 : decode cX13_stepNode 240 = .ok (.aload_n 0, 1) := by decide +kernel
theorem dX13_stepNode_241 : decode cX13_stepNode 241 = .ok (.getfield 136, 3) := by decide +kernel
theorem dX13_stepNode_244 : decode cX13_stepNode 244 = .ok (.iload_n 1, 1) := by decide +kernel
theorem dX13_stepNode_245 : decode cX13_stepNode 245 = .ok (.iaload, 1) := by decide +kernel
theorem dX13_stepNode_246 : decode cX13_stepNode 246 = .ok (.iaload, 1) := by decide +kernel
theorem dX13_stepNode_247 : decode cX13_stepNode 247 = .ok (.iastore, 1) := by decide +kernel
theorem dX13_stepNode_248 : decode cX13_stepNode 248 = .ok (.aload_n 0, 1) := by decide +kernel
theorem dX13_stepNode_249 : decode cX13_stepNode 249 = .ok (.getfield 130, 3) := by decide +kernel
theorem dX13_stepNode_252 : decode cX13_stepNode 252 = .ok (.iload_n 1, 1) := by decide +kernel
theorem dX13_stepNode_253 : decode cX13_stepNode 253 = .ok (.iconst 2, 1) := by decide +kernel
theorem dX13_stepNode_254 : decode cX13_stepNode 254 = .ok (.iastore, 1) := by decide +kernel
theorem dX13_stepNode_255 : decode cX13_stepNode 255 = .ok (.return_, 1) := by decide +kernel
theorem dX13_stepSelector_0 : decode cX13_stepSelector 0 = .ok (.aload_n 0, 1) := by decide +kernel
theorem dX13_stepSelector_1 : decode cX13_stepSelector 1 = .ok (.getfield 148, 3) := by decide +kernel
theorem dX13_stepSelector_4 : decode cX13_stepSelector 4 = .ok (.iload_n 1, 1) := by decide +kernel
theorem dX13_stepSelector_5 : decode cX13_stepSelector 5 = .ok (.iaload, 1) := by decide +kernel
theorem dX13_stepSelector_6 : decode cX13_stepSelector 6 = .ok (.istore_n 2, 1) := by decide +kernel
theorem dX13_stepSelector_7 : decode cX13_stepSelector 7 = .ok (.iload_n 2, 1) := by decide +kernel
theorem dX13_stepSelector_8 : decode cX13_stepSelector 8 = .ok (.iconst (-1), 1) := by decide +kernel
theorem dX13_stepSelector_9 : decode cX13_stepSelector 9 = .ok (.if_icmp .ne 11, 3) := by decide +kernel
theorem dX13_stepSelector_12 : decode cX13_stepSelector 12 = .ok (.aload_n 0, 1) := by decide +kernel
theorem dX13_stepSelector_13 : decode cX13_stepSelector 13 = .ok (.getfield 130, 3) := by decide +kernel
theorem dX13_stepSelector_16 : decode cX13_stepSelector 16 = .ok (.iload_n 1, 1) := by decide +kernel
theorem dX13_stepSelector_17 : decode cX13_stepSelector 17 = .ok (.iconst 1, 1) := by decide +kernel
theorem dX13_stepSelector_18 : decode cX13_stepSelector 18 = .ok (.iastore, 1) := by decide +kernel
theorem dX13_stepSelector_19 : decode cX13_stepSelector 19 = .ok (.return_, 1) := by decide +kernel
theorem dX13_stepSelector_20 : decode cX13_stepSelector 20 = .ok (.aload_n 0, 1) := by decide +kernel
theorem dX13_stepSelector_21 : decode cX13_stepSelector 21 = .ok (.getfield 148, 3) := by decide +kernel
theorem dX13_stepSelector_24 : decode cX13_stepSelector 24 = .ok (.iload_n 1, 1) := by decide +kernel
theorem dX13_stepSelector_25 : decode cX13_stepSelector 25 = .ok (.aload_n 0, 1) := by decide +kernel
theorem dX13_stepSelector_26 : decode cX13_stepSelector 26 = .ok (.getfield 88, 3) := by decide +kernel
theorem dX13_stepSelector_29 : decode cX13_stepSelector 29 = .ok (.iload_n 2, 1) := by decide +kernel
theorem dX13_stepSelector_30 : decode cX13_stepSelector 30 = .ok (.iaload, 1) := by decide +kernel
theorem dX13_stepSelector_31 : decode cX13_stepSelector 31 = .ok (.iastore, 1) := by decide +kernel
theorem dX13_stepSelector_32 : decode cX13_stepSelector 32 = .ok (.aload_n 0, 1) := by decide +kernel
theorem dX13_stepSelector_33 : decode cX13_stepSelector 33 = .ok (.getfield 85, 3) := by decide +kernel
theorem dX13_stepSelector_36 : decode cX13_stepSelector 36 = .ok (.iload_n 2, 1) := by decide +kernel
theorem dX13_stepSelector_37 : decode cX13_stepSelector 37 = .ok (.iaload, 1) := by decide +kernel
theorem dX13_stepSelector_38 : decode cX13_stepSelector 38 = .ok (.iconst 4, 1) := by decide +kernel
theorem dX13_stepSelector_39 : decode cX13_stepSelector 39 = .ok (.if_icmp .ne 37, 3) := by decide +kernel
theorem dX13_stepSelector_42 : decode cX13_stepSelector 42 = .ok (.aload_n 0, 1) := by decide +kernel
theorem dX13_stepSelector_43 : decode cX13_stepSelector 43 = .ok (.getfield 151, 3) := by decide +kernel
theorem dX13_stepSelector_46 : decode cX13_stepSelector 46 = .ok (.iload_n 1, 1) := by decide +kernel
theorem dX13_stepSelector_47 : decode cX13_stepSelector 47 = .ok (.aload_n 0, 1) := by decide +kernel
theorem dX13_stepSelector_48 : decode cX13_stepSelector 48 = .ok (.getfield 91, 3) := by decide +kernel
theorem dX13_stepSelector_51 : decode cX13_stepSelector 51 = .ok (.iload_n 2, 1) := by decide +kernel
theorem dX13_stepSelector_52 : decode cX13_stepSelector 52 = .ok (.iaload, 1) := by decide +kernel
theorem dX13_stepSelector_53 : decode cX13_stepSelector 53 = .ok (.iastore, 1) := by decide +kernel
theorem dX13_stepSelector_54 : decode cX13_stepSelector 54 = .ok (.aload_n 0, 1) := by decide +kernel
theorem dX13_stepSelector_55 : decode cX13_stepSelector 55 = .ok (.getfield 154, 3) := by decide +kernel
theorem dX13_stepSelector_58 : decode cX13_stepSelector 58 = .ok (.iload_n 1, 1) := by decide +kernel
theorem dX13_stepSelector_59 : decode cX13_stepSelector 59 = .ok (.aload_n 0, 1) := by decide +kernel
theorem dX13_stepSelector_60 : decode cX13_stepSelector 60 = .ok (.getfield 145, 3) := by decide +kernel
theorem dX13_stepSelector_63 : decode cX13_stepSelector 63 = .ok (.iload_n 1, 1) := by decide +kernel
theorem dX13_stepSelector_64 : decode cX13_stepSelector 64 = .ok (.iaload, 1) := by decide +kernel
theorem dX13_stepSelector_65 : decode cX13_stepSelector 65 = .ok (.iastore, 1) := by decide +kernel
theorem dX13_stepSelector_66 : decode cX13_stepSelector 66 = .ok (.aload_n 0, 1) := by decide +kernel
theorem dX13_stepSelector_67 : decode cX13_stepSelector 67 = .ok (.getfield 130, 3) := by decide +kernel
theorem dX13_stepSelector_70 : decode cX13_stepSelector 70 = .ok (.iload_n 1, 1) := by decide +kernel
theorem dX13_stepSelector_71 : decode cX13_stepSelector 71 = .ok (.iconst 3, 1) := by decide +kernel
theorem dX13_stepSelector_72 : decode cX13_stepSelector 72 = .ok (.iastore, 1) := by decide +kernel
theorem dX13_stepSelector_73 : decode cX13_stepSelector 73 = .ok (.goto 9, 3) := by decide +kernel
theorem dX13_stepSelector_76 : decode cX13_stepSelector 76 = .ok (.aload_n 0, 1) := by decide +kernel
theorem dX13_stepSelector_77 : decode cX13_stepSelector 77 = .ok (.iload_n 1, 1) := by decide +kernel
theorem dX13_stepSelector_78 : decode cX13_stepSelector 78 = .ok (.iload_n 2, 1) := by decide +kernel
theorem dX13_stepSelector_79 : decode cX13_stepSelector 79 = .ok (.invokevirtual 453, 3) := by decide +kernel
theorem dX13_stepSelector_82 : decode cX13_stepSelector 82 = .ok (.return_, 1) := by decide +kernel
theorem dX13_stepChild_0 : decode cX13_stepChild 0 = .ok (.aload_n 0, 1) := by decide +kernel
theorem dX13_stepChild_1 : decode cX13_stepChild 1 = .ok (.aload_n 0, 1) := by decide +kernel
theorem dX13_stepChild_2 : decode cX13_stepChild 2 = .ok (.getfield 145, 3) := by decide +kernel
theorem dX13_stepChild_5 : decode cX13_stepChild 5 = .ok (.iload_n 1, 1) := by decide +kernel
theorem dX13_stepChild_6 : decode cX13_stepChild 6 = .ok (.iaload, 1) := by decide +kernel
theorem dX13_stepChild_7 : decode cX13_stepChild 7 = .ok (.aload_n 0, 1) := by decide +kernel
theorem dX13_stepChild_8 : decode cX13_stepChild 8 = .ok (.getfield 154, 3) := by decide +kernel
theorem dX13_stepChild_11 : decode cX13_stepChild 11 = .ok (.iload_n 1, 1) := by decide +kernel
theorem dX13_stepChild_12 : decode cX13_stepChild 12 = .ok (.iaload, 1) := by decide +kernel
theorem dX13_stepChild_13 : decode cX13_stepChild 13 = .ok (.invokevirtual 415, 3) := by decide +kernel
theorem dX13_stepChild_16 : decode cX13_stepChild 16 = .ok (.istore_n 2, 1) := by decide +kernel
theorem dX13_stepChild_17 : decode cX13_stepChild 17 = .ok (.iload_n 2, 1) := by decide +kernel
theorem dX13_stepChild_18 : decode cX13_stepChild 18 = .ok (.iconst (-1), 1) := by decide +kernel
theorem dX13_stepChild_19 : decode cX13_stepChild 19 = .ok (.if_icmp .ne 11, 3) := by decide +kernel
theorem dX13_stepChild_22 : decode cX13_stepChild 22 = .ok (.aload_n 0, 1) := by decide +kernel
theorem dX13_stepChild_23 : decode cX13_stepChild 23 = .ok (.getfield 130, 3) := by decide +kernel
theorem dX13_stepChild_26 : decode cX13_stepChild 26 = .ok (.iload_n 1, 1) := by decide +kernel
theorem dX13_stepChild_27 : decode cX13_stepChild 27 = .ok (.iconst 2, 1) := by decide +kernel
theorem dX13_stepChild_28 : decode cX13_stepChild 28 = .ok (.iastore, 1) := by decide +kernel
theorem dX13_stepChild_29 : decode cX13_stepChild 29 = .ok (.return_, 1) := by decide +kernel
theorem dX13_stepChild_30 : decode cX13_stepChild 30 = .ok (.aload_n 0, 1) := by decide +kernel
theorem dX13_stepChild_31 : decode cX13_stepChild 31 = .ok (.getfield 154, 3) := by decide +kernel
theorem dX13_stepChild_34 : decode cX13_stepChild 34 = .ok (.iload_n 1, 1) := by decide +kernel
theorem dX13_stepChild_35 : decode cX13_stepChild 35 = .ok (.iload_n 2, 1) := by decide +kernel
theorem dX13_stepChild_36 : decode cX13_stepChild 36 = .ok (.iastore, 1) := by decide +kernel
theorem dX13_stepChild_37 : decode cX13_stepChild 37 = .ok (.aload_n 0, 1) := by decide +kernel
theorem dX13_stepChild_38 : decode cX13_stepChild 38 = .ok (.getfield 157, 3) := by decide +kernel
theorem dX13_stepChild_41 : decode cX13_stepChild 41 = .ok (.iload_n 1, 1) := by decide +kernel
theorem dX13_stepChild_42 : decode cX13_stepChild 42 = .ok (.aload_n 0, 1) := by decide +kernel
theorem dX13_stepChild_43 : decode cX13_stepChild 43 = .ok (.getfield 103, 3) := by decide +kernel
theorem dX13_stepChild_46 : decode cX13_stepChild 46 = .ok (.aload_n 0, 1) := by decide +kernel
theorem dX13_stepChild_47 : decode cX13_stepChild 47 = .ok (.getfield 151, 3) := by decide +kernel
theorem dX13_stepChild_50 : decode cX13_stepChild 50 = .ok (.iload_n 1, 1) := by decide +kernel
theorem dX13_stepChild_51 : decode cX13_stepChild 51 = .ok (.iaload, 1) := by decide +kernel
theorem dX13_stepChild_52 : decode cX13_stepChild 52 = .ok (.iaload, 1) := by decide +kernel
theorem dX13_stepChild_53 : decode cX13_stepChild 53 = .ok (.iastore, 1) := by decide +kernel
theorem dX13_stepChild_54 : decode cX13_stepChild 54 = .ok (.aload_n 0, 1) := by decide +kernel
theorem dX13_stepChild_55 : decode cX13_stepChild 55 = .ok (.getfield 130, 3) := by decide +kernel
theorem dX13_stepChild_58 : decode cX13_stepChild 58 = .ok (.iload_n 1, 1) := by decide +kernel
theorem dX13_stepChild_59 : decode cX13_stepChild 59 = .ok (.iconst 4, 1) := by decide +kernel
theorem dX13_stepChild_60 : decode cX13_stepChild 60 = .ok (.iastore, 1) := by decide +kernel
theorem dX13_stepChild_61 : decode cX13_stepChild 61 = .ok (.return_, 1) := by decide +kernel
def mo_enter (x1 : Int32) (x2 : Int32) (x3 : Int32) (S : md_S) : Option md_S :=
  md_l (md_p S 59 ((S.1 59) + 1)) fun S13 =>
  if md_in (S.1 59) 8 then
  md_l (md_w S13 62 (S.1 59).toNatClampNeg 0) fun S23 =>
  if md_in (S.1 59) 8 then
  md_l (md_w S23 63 (S.1 59).toNatClampNeg x3) fun S31 =>
  if md_in x1 100 then
  if md_in (S.1 59) 8 then
  md_l (md_w S31 64 (S.1 59).toNatClampNeg (S31.2 34 x1.toNatClampNeg)) fun S44 =>
  if md_in (S.1 59) 8 then
  md_l (md_w S44 72 (S.1 59).toNatClampNeg 1) fun S52 =>
  if md_in (300 * (S.1 59)) 2400 then
  md_l (md_w S52 74 (300 * (S.1 59)).toNatClampNeg x2) fun S64 =>
  some S64
  else none
  else none
  else none
  else none
  else none
  else none
theorem ro_enter {l : Launch} {G : mv_G} {B : mv_H} {m d : Nat} (hG : mv_ok G) (hm : G.2.2.1 ≤ m) {x1 : Int32} {x2 : Int32} {x3 : Int32} {S : md_S} {q : md_S} (hq : mo_enter x1 x2 x3 S = some q) : mv_rq l G mX13_enter d 0 (mv_in [.ref m, .int x1, .int x2, .int x3] 5) [] (md_H G B m S) (md_V G B m q) := by
  unfold mo_enter at hq
  show mv_rq l G mX13_enter d 0 [some (.ref m), some (.int x1), some (.int x2), some (.int x3), none] [] (md_H G B m S) _
  refine q_aload_n dX13_enter_0 rfl ?_
  refine r_geti 59 dX13_enter_1 fl_RX13_437 (by decide) rfl ki_59 ?_
  refine q_istore dX13_enter_4 (Nat.le_of_ble_eq_true rfl) rfl ?_
  show mv_rq l G mX13_enter d 6 [some (.ref m), some (.int x1), some (.int x2), some (.int x3), some (.int (S.1 59))] [] (md_H G B m S) _
  refine q_aload_n dX13_enter_6 rfl ?_
  refine q_dup dX13_enter_7 rfl ?_
  refine r_geti 59 dX13_enter_8 fl_RX13_437 (by decide) rfl ki_59 ?_
  refine q_iconst (v := 1) dX13_enter_11 (by decide) ?_
  refine q_iadd dX13_enter_12 ?_
  refine r_puti 59 .int dX13_enter_13 fl_RX13_437 (by decide) rfl ki_59 rfl kp_59 rfl rfl hm (fun S13 e13 => ?_)
  have hq := md_l_e e13 hq
  clear e13
  show mv_rq l G mX13_enter d 16 [some (.ref m), some (.int x1), some (.int x2), some (.int x3), some (.int (S.1 59))] [] (md_H G B m S13) _
  refine q_aload_n dX13_enter_16 rfl ?_
  refine r_geta 62 dX13_enter_17 fl_RX13_130 (by decide) rfl kk_62 ?_
  refine q_iload dX13_enter_20 rfl ?_
  refine q_iconst (v := 0) dX13_enter_22 (by decide) ?_
  obtain ⟨g23, hq⟩ := md_g hq
  refine r_iast hG hm 62 dX13_enter_23 kk_62 g23 (fun S23 e23 => ?_)
  have hq := md_l_e e23 hq
  clear e23
  show mv_rq l G mX13_enter d 24 [some (.ref m), some (.int x1), some (.int x2), some (.int x3), some (.int (S.1 59))] [] (md_H G B m S23) _
  refine q_aload_n dX13_enter_24 rfl ?_
  refine r_geta 63 dX13_enter_25 fl_RX13_133 (by decide) rfl kk_63 ?_
  refine q_iload dX13_enter_28 rfl ?_
  refine q_iload_n dX13_enter_30 rfl ?_
  obtain ⟨g31, hq⟩ := md_g hq
  refine r_iast hG hm 63 dX13_enter_31 kk_63 g31 (fun S31 e31 => ?_)
  have hq := md_l_e e31 hq
  clear e31
  show mv_rq l G mX13_enter d 32 [some (.ref m), some (.int x1), some (.int x2), some (.int x3), some (.int (S.1 59))] [] (md_H G B m S31) _
  refine q_aload_n dX13_enter_32 rfl ?_
  refine r_geta 64 dX13_enter_33 fl_RX13_136 (by decide) rfl kk_64 ?_
  refine q_iload dX13_enter_36 rfl ?_
  refine q_aload_n dX13_enter_38 rfl ?_
  refine r_geta 34 dX13_enter_39 fl_RX13_57 (by decide) rfl kk_34 ?_
  refine q_iload_n dX13_enter_42 rfl ?_
  obtain ⟨g43, hq⟩ := md_g hq
  refine r_iald hG 34 dX13_enter_43 kk_34 g43 ?_
  obtain ⟨g44, hq⟩ := md_g hq
  refine r_iast hG hm 64 dX13_enter_44 kk_64 g44 (fun S44 e44 => ?_)
  have hq := md_l_e e44 hq
  clear e44
  show mv_rq l G mX13_enter d 45 [some (.ref m), some (.int x1), some (.int x2), some (.int x3), some (.int (S.1 59))] [] (md_H G B m S44) _
  refine q_aload_n dX13_enter_45 rfl ?_
  refine r_geta 72 dX13_enter_46 fl_RX13_160 (by decide) rfl kk_72 ?_
  refine q_iload dX13_enter_49 rfl ?_
  refine q_iconst (v := 1) dX13_enter_51 (by decide) ?_
  obtain ⟨g52, hq⟩ := md_g hq
  refine r_iast hG hm 72 dX13_enter_52 kk_72 g52 (fun S52 e52 => ?_)
  have hq := md_l_e e52 hq
  clear e52
  show mv_rq l G mX13_enter d 53 [some (.ref m), some (.int x1), some (.int x2), some (.int x3), some (.int (S.1 59))] [] (md_H G B m S52) _
  refine q_aload_n dX13_enter_53 rfl ?_
  refine r_geta 74 dX13_enter_54 fl_RX13_166 (by decide) rfl kk_74 ?_
  refine q_sipush (v := 300) dX13_enter_57 (by decide) ?_
  refine q_iload dX13_enter_60 rfl ?_
  refine q_imul dX13_enter_62 ?_
  refine q_iload_n dX13_enter_63 rfl ?_
  obtain ⟨g64, hq⟩ := md_g hq
  refine r_iast hG hm 74 dX13_enter_64 kk_74 g64 (fun S64 e64 => ?_)
  have hq := md_l_e e64 hq
  clear e64
  show mv_rq l G mX13_enter d 65 [some (.ref m), some (.int x1), some (.int x2), some (.int x3), some (.int (S.1 59))] [] (md_H G B m S64) _
  obtain rfl := Option.some.inj hq
  exact q_vret dX13_enter_65 rfl ⟨rfl, rfl⟩
def mo_value (x1 : Int32) (x2 : Int32) (x3 : Int32) (S : md_S) : Option md_S :=
  if md_in (S.1 76) 100 then
  md_l (md_w S 77 (S.1 76).toNatClampNeg x1) fun S9 =>
  if md_in (S9.1 76) 100 then
  md_l (md_w S9 78 (S9.1 76).toNatClampNeg x2) fun S19 =>
  if md_in (S19.1 76) 100 then
  md_l (md_w S19 79 (S19.1 76).toNatClampNeg x3) fun S29 =>
  md_l (md_p S29 76 ((S29.1 76) + 1)) fun S37 =>
  some S37
  else none
  else none
  else none
theorem ro_value {l : Launch} {G : mv_G} {B : mv_H} {m d : Nat} (hG : mv_ok G) (hm : G.2.2.1 ≤ m) {x1 : Int32} {x2 : Int32} {x3 : Int32} {S : md_S} {q : md_S} (hq : mo_value x1 x2 x3 S = some q) : mv_rq l G mX13_value d 0 (mv_in [.ref m, .int x1, .int x2, .int x3] 4) [] (md_H G B m S) (md_V G B m q) := by
  unfold mo_value at hq
  show mv_rq l G mX13_value d 0 [some (.ref m), some (.int x1), some (.int x2), some (.int x3)] [] (md_H G B m S) _
  refine q_aload_n dX13_value_0 rfl ?_
  refine r_geta 77 dX13_value_1 fl_RX13_172 (by decide) rfl kk_77 ?_
  refine q_aload_n dX13_value_4 rfl ?_
  refine r_geti 76 dX13_value_5 fl_RX13_440 (by decide) rfl ki_76 ?_
  refine q_iload_n dX13_value_8 rfl ?_
  obtain ⟨g9, hq⟩ := md_g hq
  refine r_iast hG hm 77 dX13_value_9 kk_77 g9 (fun S9 e9 => ?_)
  have hq := md_l_e e9 hq
  clear e9
  show mv_rq l G mX13_value d 10 [some (.ref m), some (.int x1), some (.int x2), some (.int x3)] [] (md_H G B m S9) _
  refine q_aload_n dX13_value_10 rfl ?_
  refine r_geta 78 dX13_value_11 fl_RX13_175 (by decide) rfl kk_78 ?_
  refine q_aload_n dX13_value_14 rfl ?_
  refine r_geti 76 dX13_value_15 fl_RX13_440 (by decide) rfl ki_76 ?_
  refine q_iload_n dX13_value_18 rfl ?_
  obtain ⟨g19, hq⟩ := md_g hq
  refine r_iast hG hm 78 dX13_value_19 kk_78 g19 (fun S19 e19 => ?_)
  have hq := md_l_e e19 hq
  clear e19
  show mv_rq l G mX13_value d 20 [some (.ref m), some (.int x1), some (.int x2), some (.int x3)] [] (md_H G B m S19) _
  refine q_aload_n dX13_value_20 rfl ?_
  refine r_geta 79 dX13_value_21 fl_RX13_178 (by decide) rfl kk_79 ?_
  refine q_aload_n dX13_value_24 rfl ?_
  refine r_geti 76 dX13_value_25 fl_RX13_440 (by decide) rfl ki_76 ?_
  refine q_iload_n dX13_value_28 rfl ?_
  obtain ⟨g29, hq⟩ := md_g hq
  refine r_iast hG hm 79 dX13_value_29 kk_79 g29 (fun S29 e29 => ?_)
  have hq := md_l_e e29 hq
  clear e29
  show mv_rq l G mX13_value d 30 [some (.ref m), some (.int x1), some (.int x2), some (.int x3)] [] (md_H G B m S29) _
  refine q_aload_n dX13_value_30 rfl ?_
  refine q_dup dX13_value_31 rfl ?_
  refine r_geti 76 dX13_value_32 fl_RX13_440 (by decide) rfl ki_76 ?_
  refine q_iconst (v := 1) dX13_value_35 (by decide) ?_
  refine q_iadd dX13_value_36 ?_
  refine r_puti 76 .int dX13_value_37 fl_RX13_440 (by decide) rfl ki_76 rfl kp_76 rfl rfl hm (fun S37 e37 => ?_)
  have hq := md_l_e e37 hq
  clear e37
  show mv_rq l G mX13_value d 40 [some (.ref m), some (.int x1), some (.int x2), some (.int x3)] [] (md_H G B m S37) _
  obtain rfl := Option.some.inj hq
  exact q_vret dX13_value_40 rfl ⟨rfl, rfl⟩
def mo_nodeValue (x1 : Int32) (S : md_S) : Option md_S :=
  if md_in x1 41 then
  if (S.2 12 x1.toNatClampNeg) = 3 then
    if md_in x1 41 then
    md_c (mo_value 3 (S.2 17 x1.toNatClampNeg) 0 S) fun S21 =>
    some S21
    else none
  else
    if (S.2 12 x1.toNatClampNeg) = 4 then
      if md_in x1 41 then
      if md_in x1 41 then
      md_c (mo_value 4 ((S.2 15 x1.toNatClampNeg) + 1) (S.2 17 x1.toNatClampNeg) S) fun S48 =>
      some S48
      else none
      else none
    else
      md_c (mo_value (S.2 12 x1.toNatClampNeg) x1 0 S) fun S58 =>
      some S58
  else none
theorem ro_nodeValue {l : Launch} {G : mv_G} {B : mv_H} {m d : Nat} (hG : mv_ok G) (hm : G.2.2.1 ≤ m) {x1 : Int32} {S : md_S} {q : md_S} (hq : mo_nodeValue x1 S = some q) : mv_rq l G mX13_nodeValue (d + 1) 0 (mv_in [.ref m, .int x1] 3) [] (md_H G B m S) (md_V G B m q) := by
  unfold mo_nodeValue at hq
  show mv_rq l G mX13_nodeValue (d + 1) 0 [some (.ref m), some (.int x1), none] [] (md_H G B m S) _
  refine q_aload_n dX13_nodeValue_0 rfl ?_
  refine r_geta 12 dX13_nodeValue_1 fl_RX13_23 (by decide) rfl kk_12 ?_
  refine q_iload_n dX13_nodeValue_4 rfl ?_
  obtain ⟨g5, hq⟩ := md_g hq
  refine r_iald hG 12 dX13_nodeValue_5 kk_12 g5 ?_
  refine q_istore_n dX13_nodeValue_6 (Nat.le_of_ble_eq_true rfl) rfl ?_
  show mv_rq l G mX13_nodeValue (d + 1) 7 [some (.ref m), some (.int x1), some (.int (S.2 12 x1.toNatClampNeg))] [] (md_H G B m S) _
  refine q_iload_n dX13_nodeValue_7 rfl ?_
  refine q_iconst (v := 3) dX13_nodeValue_8 (by decide) ?_
  refine q_icmp_ne (tgt := 27) dX13_nodeValue_9 (by decide) (fun c9 => ?_) (fun c9 => ?_)
  ·
    have hq := md_neg c9 hq
    refine q_iload_n dX13_nodeValue_27 rfl ?_
    refine q_iconst (v := 4) dX13_nodeValue_28 (by decide) ?_
    refine q_icmp_ne (tgt := 54) dX13_nodeValue_29 (by decide) (fun c29 => ?_) (fun c29 => ?_)
    ·
      have hq := md_neg c29 hq
      refine q_aload_n dX13_nodeValue_54 rfl ?_
      refine q_iload_n dX13_nodeValue_55 rfl ?_
      refine q_iload_n dX13_nodeValue_56 rfl ?_
      refine q_iconst (v := 0) dX13_nodeValue_57 (by decide) ?_
      obtain ⟨S58, e58, hq⟩ := md_c_e hq
      refine q_cV (Y := mX13_value) (As := [.int (S.2 12 x1.toNatClampNeg), .int x1, .int 0]) (st := []) (b := m) (ci := 15) vc_X13_value dX13_nodeValue_58 ml_RX13_443 rfl md_obj rfl (Nat.le_of_ble_eq_true rfl) rfl (Nat.le_of_ble_eq_true rfl) (ro_value (d := d) hG hm e58) (fun v h1 hq1 => ?_) (fun E h1 hq1 => md_nV hq1)
      obtain ⟨hv, rfl⟩ := hq1
      cases hv
      show mv_rq l G mX13_nodeValue (d + 1) 61 [some (.ref m), some (.int x1), some (.int (S.2 12 x1.toNatClampNeg))] [] (md_H G B m S58) _
      obtain rfl := Option.some.inj hq
      exact q_vret dX13_nodeValue_61 rfl ⟨rfl, rfl⟩
    ·
      have hq := md_pos c29 hq
      refine q_aload_n dX13_nodeValue_32 rfl ?_
      refine q_iconst (v := 4) dX13_nodeValue_33 (by decide) ?_
      refine q_aload_n dX13_nodeValue_34 rfl ?_
      refine r_geta 15 dX13_nodeValue_35 fl_RX13_33 (by decide) rfl kk_15 ?_
      refine q_iload_n dX13_nodeValue_38 rfl ?_
      obtain ⟨g39, hq⟩ := md_g hq
      refine r_iald hG 15 dX13_nodeValue_39 kk_15 g39 ?_
      refine q_iconst (v := 1) dX13_nodeValue_40 (by decide) ?_
      refine q_iadd dX13_nodeValue_41 ?_
      refine q_aload_n dX13_nodeValue_42 rfl ?_
      refine r_geta 17 dX13_nodeValue_43 fl_RX13_39 (by decide) rfl kk_17 ?_
      refine q_iload_n dX13_nodeValue_46 rfl ?_
      obtain ⟨g47, hq⟩ := md_g hq
      refine r_iald hG 17 dX13_nodeValue_47 kk_17 g47 ?_
      obtain ⟨S48, e48, hq⟩ := md_c_e hq
      refine q_cV (Y := mX13_value) (As := [.int 4, .int ((S.2 15 x1.toNatClampNeg) + 1), .int (S.2 17 x1.toNatClampNeg)]) (st := []) (b := m) (ci := 15) vc_X13_value dX13_nodeValue_48 ml_RX13_443 rfl md_obj rfl (Nat.le_of_ble_eq_true rfl) rfl (Nat.le_of_ble_eq_true rfl) (ro_value (d := d) hG hm e48) (fun v h1 hq1 => ?_) (fun E h1 hq1 => md_nV hq1)
      obtain ⟨hv, rfl⟩ := hq1
      cases hv
      show mv_rq l G mX13_nodeValue (d + 1) 51 [some (.ref m), some (.int x1), some (.int (S.2 12 x1.toNatClampNeg))] [] (md_H G B m S48) _
      refine q_goto (tgt := 61) dX13_nodeValue_51 (by decide) ?_
      obtain rfl := Option.some.inj hq
      exact q_vret dX13_nodeValue_61 rfl ⟨rfl, rfl⟩
  ·
    have hq := md_pos c9 hq
    refine q_aload_n dX13_nodeValue_12 rfl ?_
    refine q_iconst (v := 3) dX13_nodeValue_13 (by decide) ?_
    refine q_aload_n dX13_nodeValue_14 rfl ?_
    refine r_geta 17 dX13_nodeValue_15 fl_RX13_39 (by decide) rfl kk_17 ?_
    refine q_iload_n dX13_nodeValue_18 rfl ?_
    obtain ⟨g19, hq⟩ := md_g hq
    refine r_iald hG 17 dX13_nodeValue_19 kk_17 g19 ?_
    refine q_iconst (v := 0) dX13_nodeValue_20 (by decide) ?_
    obtain ⟨S21, e21, hq⟩ := md_c_e hq
    refine q_cV (Y := mX13_value) (As := [.int 3, .int (S.2 17 x1.toNatClampNeg), .int 0]) (st := []) (b := m) (ci := 15) vc_X13_value dX13_nodeValue_21 ml_RX13_443 rfl md_obj rfl (Nat.le_of_ble_eq_true rfl) rfl (Nat.le_of_ble_eq_true rfl) (ro_value (d := d) hG hm e21) (fun v h1 hq1 => ?_) (fun E h1 hq1 => md_nV hq1)
    obtain ⟨hv, rfl⟩ := hq1
    cases hv
    show mv_rq l G mX13_nodeValue (d + 1) 24 [some (.ref m), some (.int x1), some (.int (S.2 12 x1.toNatClampNeg))] [] (md_H G B m S21) _
    refine q_goto (tgt := 61) dX13_nodeValue_24 (by decide) ?_
    obtain rfl := Option.some.inj hq
    exact q_vret dX13_nodeValue_61 rfl ⟨rfl, rfl⟩
def mo_leave_j95 (N : Nat) (y0 : Int32) (S : md_S) : Option md_S :=
  md_c (mo_value y0 0 0 S) fun S97 =>
  some S97
theorem ro_leave_j95 {l : Launch} {G : mv_G} {B : mv_H} {m N d : Nat} (hG : mv_ok G) (hm : G.2.2.1 ≤ m) {y0 : Int32} {S : md_S} {q : md_S} (hq : mo_leave_j95 N y0 S = some q) : mv_rq l G mX13_leave (d + 2) 95 [none, none, none, none] [.int y0, .ref m] (md_H G B m S) (md_V G B m q) := by
  unfold mo_leave_j95 at hq
  refine q_iconst (v := 0) dX13_leave_95 (by decide) ?_
  refine q_iconst (v := 0) dX13_leave_96 (by decide) ?_
  obtain ⟨S97, e97, hq⟩ := md_c_e hq
  refine q_cV (Y := mX13_value) (As := [.int y0, .int 0, .int 0]) (st := []) (b := m) (ci := 15) vc_X13_value dX13_leave_97 ml_RX13_443 rfl md_obj rfl (Nat.le_of_ble_eq_true rfl) rfl (Nat.le_of_ble_eq_true rfl) (ro_value (d := d + 1) hG hm e97) (fun v h1 hq1 => ?_) (fun E h1 hq1 => md_nV hq1)
  obtain ⟨hv, rfl⟩ := hq1
  cases hv
  show mv_rq l G mX13_leave (d + 2) 100 [none, none, none, none] [] (md_H G B m S97) _
  refine q_goto (tgt := 142) dX13_leave_100 (by decide) ?_
  obtain rfl := Option.some.inj hq
  exact q_vret dX13_leave_142 rfl ⟨rfl, rfl⟩
def mo_leave_l59 (N : Nat) : Nat → Int32 → Int32 → md_S → Option md_S
  | 0, _, _, _ => none
  | n + 1, x2, x3, S =>
    if x2 ≤ x3 then
      some S
    else
      if md_in x3 2400 then
      if md_in x3 300 then
      md_l (md_w S 83 x3.toNatClampNeg (S.2 74 x3.toNatClampNeg)) fun S75 =>
      mo_leave_l59 N n x2 (x3 + 1) S75
      else none
      else none
theorem ro_leave_l59 {l : Launch} {G : mv_G} {B : mv_H} {m N d : Nat} (hG : mv_ok G) (hm : G.2.2.1 ≤ m) : ∀ n : Nat, ∀ {x2 : Int32} {x3 : Int32} {S : md_S} {q : md_S}, mo_leave_l59 N n x2 x3 S = some q → mv_rq l G mX13_leave (d + 2) 59 [some (.ref m), none, some (.int x2), some (.int x3)] [] (md_H G B m S) (md_V G B m q)
  | 0, _, _, _, _, hq => nomatch hq
  | n + 1, x2, x3, S, q, hq => by
    rw [mo_leave_l59] at hq
    refine q_iload_n dX13_leave_59 rfl ?_
    refine q_iload_n dX13_leave_60 rfl ?_
    refine q_icmp_ge (tgt := 82) dX13_leave_61 (by decide) (fun c61 => ?_) (fun c61 => ?_)
    ·
      have hq := md_pos c61 hq
      refine q_goto (tgt := 142) dX13_leave_82 (by decide) ?_
      obtain rfl := Option.some.inj hq
      exact q_vret dX13_leave_142 rfl ⟨rfl, rfl⟩
    ·
      have hq := md_neg c61 hq
      refine q_aload_n dX13_leave_64 rfl ?_
      refine r_geta 83 dX13_leave_65 fl_RX13_187 (by decide) rfl kk_83 ?_
      refine q_iload_n dX13_leave_68 rfl ?_
      refine q_aload_n dX13_leave_69 rfl ?_
      refine r_geta 74 dX13_leave_70 fl_RX13_166 (by decide) rfl kk_74 ?_
      refine q_iload_n dX13_leave_73 rfl ?_
      obtain ⟨g74, hq⟩ := md_g hq
      refine r_iald hG 74 dX13_leave_74 kk_74 g74 ?_
      obtain ⟨g75, hq⟩ := md_g hq
      refine r_iast hG hm 83 dX13_leave_75 kk_83 g75 (fun S75 e75 => ?_)
      have hq := md_l_e e75 hq
      clear e75
      show mv_rq l G mX13_leave (d + 2) 76 [some (.ref m), none, some (.int x2), some (.int x3)] [] (md_H G B m S75) _
      refine q_iinc dX13_leave_76 rfl rfl ?_
      show mv_rq l G mX13_leave (d + 2) 79 [some (.ref m), none, some (.int x2), some (.int (x3 + 1))] [] (md_H G B m S75) _
      refine q_goto (tgt := 59) dX13_leave_79 (by decide) ?_
      refine mv_weak (A := [some (.ref m), none, some (.int x2), some (.int (x3 + 1))]) (by repeat' constructor) ?_
      exact ro_leave_l59 hG hm n hq
def mo_leave (N : Nat) (x1 : Int32) (S : md_S) : Option md_S :=
  md_l (md_p S 59 ((S.1 59) - 1)) fun S7 =>
  if md_in x1 8 then
  if md_in x1 8 then
  if (S7.2 63 x1.toNatClampNeg) = 0 then
    md_l (md_p S7 82 (S7.2 72 x1.toNatClampNeg)) fun S54 =>
    mo_leave_l59 N N (S7.2 72 x1.toNatClampNeg) 0 S54
  else
  if (S7.2 63 x1.toNatClampNeg) = 1 then
    if (S7.2 72 x1.toNatClampNeg) ≤ 0 then
      mo_leave_j95 N 1 S7
    else
      mo_leave_j95 N 2 S7
  else
  if (S7.2 63 x1.toNatClampNeg) = 2 then
    if (S7.2 72 x1.toNatClampNeg) = 0 then
      md_c (mo_value 7 0 0 S7) fun S122 =>
      some S122
    else
      if md_in (300 * x1) 2400 then
      md_c (mo_nodeValue (S7.2 74 (300 * x1).toNatClampNeg) S7) fun S139 =>
      some S139
      else none
  else
  if (S7.2 63 x1.toNatClampNeg) = 3 then
    md_c (mo_value 3 (S7.2 72 x1.toNatClampNeg) 0 S7) fun S107 =>
    some S107
  else
    if (S7.2 72 x1.toNatClampNeg) = 0 then
      md_c (mo_value 7 0 0 S7) fun S122 =>
      some S122
    else
      if md_in (300 * x1) 2400 then
      md_c (mo_nodeValue (S7.2 74 (300 * x1).toNatClampNeg) S7) fun S139 =>
      some S139
      else none
  else none
  else none
theorem ro_leave {l : Launch} {G : mv_G} {B : mv_H} {m N d : Nat} (hG : mv_ok G) (hm : G.2.2.1 ≤ m) {x1 : Int32} {S : md_S} {q : md_S} (hq : mo_leave N x1 S = some q) : mv_rq l G mX13_leave (d + 2) 0 (mv_in [.ref m, .int x1] 4) [] (md_H G B m S) (md_V G B m q) := by
  unfold mo_leave at hq
  show mv_rq l G mX13_leave (d + 2) 0 [some (.ref m), some (.int x1), none, none] [] (md_H G B m S) _
  refine q_aload_n dX13_leave_0 rfl ?_
  refine q_dup dX13_leave_1 rfl ?_
  refine r_geti 59 dX13_leave_2 fl_RX13_437 (by decide) rfl ki_59 ?_
  refine q_iconst (v := 1) dX13_leave_5 (by decide) ?_
  refine q_isub dX13_leave_6 ?_
  refine r_puti 59 .int dX13_leave_7 fl_RX13_437 (by decide) rfl ki_59 rfl kp_59 rfl rfl hm (fun S7 e7 => ?_)
  have hq := md_l_e e7 hq
  clear e7
  show mv_rq l G mX13_leave (d + 2) 10 [some (.ref m), some (.int x1), none, none] [] (md_H G B m S7) _
  refine q_aload_n dX13_leave_10 rfl ?_
  refine r_geta 72 dX13_leave_11 fl_RX13_160 (by decide) rfl kk_72 ?_
  refine q_iload_n dX13_leave_14 rfl ?_
  obtain ⟨g15, hq⟩ := md_g hq
  refine r_iald hG 72 dX13_leave_15 kk_72 g15 ?_
  refine q_istore_n dX13_leave_16 (Nat.le_of_ble_eq_true rfl) rfl ?_
  show mv_rq l G mX13_leave (d + 2) 17 [some (.ref m), some (.int x1), some (.int (S7.2 72 x1.toNatClampNeg)), none] [] (md_H G B m S7) _
  refine q_aload_n dX13_leave_17 rfl ?_
  refine r_geta 63 dX13_leave_18 fl_RX13_133 (by decide) rfl kk_63 ?_
  refine q_iload_n dX13_leave_21 rfl ?_
  obtain ⟨g22, hq⟩ := md_g hq
  refine r_iald hG 63 dX13_leave_22 kk_63 g22 ?_
  by_cases c23_0 : (S7.2 63 x1.toNatClampNeg) = 0
  ·
    have hq := md_pos c23_0 hq
    have t23 := md_ti (i := 0) (by decide) c23_0
    refine q_tableIn (off := 29) (tgt := 52) dX13_leave_23 (by rw [t23]; decide) (by rw [t23]; decide) (by rw [t23]; rfl) (by decide) ?_
    refine q_aload_n dX13_leave_52 rfl ?_
    refine q_iload_n dX13_leave_53 rfl ?_
    refine r_puti 82 .int dX13_leave_54 fl_RX13_304 (by decide) rfl ki_82 rfl kp_82 rfl rfl hm (fun S54 e54 => ?_)
    have hq := md_l_e e54 hq
    clear e54
    show mv_rq l G mX13_leave (d + 2) 57 [some (.ref m), some (.int x1), some (.int (S7.2 72 x1.toNatClampNeg)), none] [] (md_H G B m S54) _
    refine q_iconst (v := 0) dX13_leave_57 (by decide) ?_
    refine q_istore_n dX13_leave_58 (Nat.le_of_ble_eq_true rfl) rfl ?_
    show mv_rq l G mX13_leave (d + 2) 59 [some (.ref m), some (.int x1), some (.int (S7.2 72 x1.toNatClampNeg)), some (.int 0)] [] (md_H G B m S54) _
    refine mv_weak (A := [some (.ref m), none, some (.int (S7.2 72 x1.toNatClampNeg)), some (.int 0)]) (by repeat' constructor) ?_
    exact ro_leave_l59 hG hm N hq
  ·
    have hq := md_neg c23_0 hq
    by_cases c23_1 : (S7.2 63 x1.toNatClampNeg) = 1
    ·
      have hq := md_pos c23_1 hq
      have t23 := md_ti (i := 1) (by decide) c23_1
      refine q_tableIn (off := 62) (tgt := 85) dX13_leave_23 (by rw [t23]; decide) (by rw [t23]; decide) (by rw [t23]; rfl) (by decide) ?_
      refine q_aload_n dX13_leave_85 rfl ?_
      refine q_iload_n dX13_leave_86 rfl ?_
      refine q_if_le (tgt := 94) dX13_leave_87 (by decide) (fun c87 => ?_) (fun c87 => ?_)
      ·
        have hq := md_pos c87 hq
        refine q_iconst (v := 1) dX13_leave_94 (by decide) ?_
        refine mv_weak (A := [none, none, none, none]) (by repeat' constructor) ?_
        exact ro_leave_j95 hG hm hq
      ·
        have hq := md_neg c87 hq
        refine q_iconst (v := 2) dX13_leave_90 (by decide) ?_
        refine q_goto (tgt := 95) dX13_leave_91 (by decide) ?_
        refine mv_weak (A := [none, none, none, none]) (by repeat' constructor) ?_
        exact ro_leave_j95 hG hm hq
    ·
      have hq := md_neg c23_1 hq
      by_cases c23_2 : (S7.2 63 x1.toNatClampNeg) = 2
      ·
        have hq := md_pos c23_2 hq
        have t23 := md_ti (i := 2) (by decide) c23_2
        refine q_tableIn (off := 90) (tgt := 113) dX13_leave_23 (by rw [t23]; decide) (by rw [t23]; decide) (by rw [t23]; rfl) (by decide) ?_
        refine q_iload_n dX13_leave_113 rfl ?_
        refine q_if_ne (tgt := 128) dX13_leave_114 (by decide) (fun c114 => ?_) (fun c114 => ?_)
        ·
          have hq := md_neg c114 hq
          refine q_aload_n dX13_leave_128 rfl ?_
          refine q_aload_n dX13_leave_129 rfl ?_
          refine r_geta 74 dX13_leave_130 fl_RX13_166 (by decide) rfl kk_74 ?_
          refine q_sipush (v := 300) dX13_leave_133 (by decide) ?_
          refine q_iload_n dX13_leave_136 rfl ?_
          refine q_imul dX13_leave_137 ?_
          obtain ⟨g138, hq⟩ := md_g hq
          refine r_iald hG 74 dX13_leave_138 kk_74 g138 ?_
          obtain ⟨S139, e139, hq⟩ := md_c_e hq
          refine q_cV (Y := mX13_nodeValue) (As := [.int (S7.2 74 (300 * x1).toNatClampNeg)]) (st := []) (b := m) (ci := 15) vc_X13_nodeValue dX13_leave_139 ml_RX13_446 rfl md_obj rfl (Nat.le_of_ble_eq_true rfl) rfl (Nat.le_of_ble_eq_true rfl) (ro_nodeValue (d := d) hG hm e139) (fun v h1 hq1 => ?_) (fun E h1 hq1 => md_nV hq1)
          obtain ⟨hv, rfl⟩ := hq1
          cases hv
          show mv_rq l G mX13_leave (d + 2) 142 [some (.ref m), some (.int x1), some (.int (S7.2 72 x1.toNatClampNeg)), none] [] (md_H G B m S139) _
          obtain rfl := Option.some.inj hq
          exact q_vret dX13_leave_142 rfl ⟨rfl, rfl⟩
        ·
          have hq := md_pos c114 hq
          refine q_aload_n dX13_leave_117 rfl ?_
          refine q_bipush (v := 7) dX13_leave_118 (by decide) ?_
          refine q_iconst (v := 0) dX13_leave_120 (by decide) ?_
          refine q_iconst (v := 0) dX13_leave_121 (by decide) ?_
          obtain ⟨S122, e122, hq⟩ := md_c_e hq
          refine q_cV (Y := mX13_value) (As := [.int 7, .int 0, .int 0]) (st := []) (b := m) (ci := 15) vc_X13_value dX13_leave_122 ml_RX13_443 rfl md_obj rfl (Nat.le_of_ble_eq_true rfl) rfl (Nat.le_of_ble_eq_true rfl) (ro_value (d := d + 1) hG hm e122) (fun v h1 hq1 => ?_) (fun E h1 hq1 => md_nV hq1)
          obtain ⟨hv, rfl⟩ := hq1
          cases hv
          show mv_rq l G mX13_leave (d + 2) 125 [some (.ref m), some (.int x1), some (.int (S7.2 72 x1.toNatClampNeg)), none] [] (md_H G B m S122) _
          refine q_goto (tgt := 142) dX13_leave_125 (by decide) ?_
          obtain rfl := Option.some.inj hq
          exact q_vret dX13_leave_142 rfl ⟨rfl, rfl⟩
      ·
        have hq := md_neg c23_2 hq
        by_cases c23_3 : (S7.2 63 x1.toNatClampNeg) = 3
        ·
          have hq := md_pos c23_3 hq
          have t23 := md_ti (i := 3) (by decide) c23_3
          refine q_tableIn (off := 80) (tgt := 103) dX13_leave_23 (by rw [t23]; decide) (by rw [t23]; decide) (by rw [t23]; rfl) (by decide) ?_
          refine q_aload_n dX13_leave_103 rfl ?_
          refine q_iconst (v := 3) dX13_leave_104 (by decide) ?_
          refine q_iload_n dX13_leave_105 rfl ?_
          refine q_iconst (v := 0) dX13_leave_106 (by decide) ?_
          obtain ⟨S107, e107, hq⟩ := md_c_e hq
          refine q_cV (Y := mX13_value) (As := [.int 3, .int (S7.2 72 x1.toNatClampNeg), .int 0]) (st := []) (b := m) (ci := 15) vc_X13_value dX13_leave_107 ml_RX13_443 rfl md_obj rfl (Nat.le_of_ble_eq_true rfl) rfl (Nat.le_of_ble_eq_true rfl) (ro_value (d := d + 1) hG hm e107) (fun v h1 hq1 => ?_) (fun E h1 hq1 => md_nV hq1)
          obtain ⟨hv, rfl⟩ := hq1
          cases hv
          show mv_rq l G mX13_leave (d + 2) 110 [some (.ref m), some (.int x1), some (.int (S7.2 72 x1.toNatClampNeg)), none] [] (md_H G B m S107) _
          refine q_goto (tgt := 142) dX13_leave_110 (by decide) ?_
          obtain rfl := Option.some.inj hq
          exact q_vret dX13_leave_142 rfl ⟨rfl, rfl⟩
        ·
          have hq := md_neg c23_3 hq
          refine q_tableOut (tgt := 113) dX13_leave_23 (by have e0 := md_tn (i := 0) (by decide) c23_0; have e1 := md_tn (i := 1) (by decide) c23_1; have e2 := md_tn (i := 2) (by decide) c23_2; have e3 := md_tn (i := 3) (by decide) c23_3; omega) (by decide) ?_
          refine q_iload_n dX13_leave_113 rfl ?_
          refine q_if_ne (tgt := 128) dX13_leave_114 (by decide) (fun c114 => ?_) (fun c114 => ?_)
          ·
            have hq := md_neg c114 hq
            refine q_aload_n dX13_leave_128 rfl ?_
            refine q_aload_n dX13_leave_129 rfl ?_
            refine r_geta 74 dX13_leave_130 fl_RX13_166 (by decide) rfl kk_74 ?_
            refine q_sipush (v := 300) dX13_leave_133 (by decide) ?_
            refine q_iload_n dX13_leave_136 rfl ?_
            refine q_imul dX13_leave_137 ?_
            obtain ⟨g138, hq⟩ := md_g hq
            refine r_iald hG 74 dX13_leave_138 kk_74 g138 ?_
            obtain ⟨S139, e139, hq⟩ := md_c_e hq
            refine q_cV (Y := mX13_nodeValue) (As := [.int (S7.2 74 (300 * x1).toNatClampNeg)]) (st := []) (b := m) (ci := 15) vc_X13_nodeValue dX13_leave_139 ml_RX13_446 rfl md_obj rfl (Nat.le_of_ble_eq_true rfl) rfl (Nat.le_of_ble_eq_true rfl) (ro_nodeValue (d := d) hG hm e139) (fun v h1 hq1 => ?_) (fun E h1 hq1 => md_nV hq1)
            obtain ⟨hv, rfl⟩ := hq1
            cases hv
            show mv_rq l G mX13_leave (d + 2) 142 [some (.ref m), some (.int x1), some (.int (S7.2 72 x1.toNatClampNeg)), none] [] (md_H G B m S139) _
            obtain rfl := Option.some.inj hq
            exact q_vret dX13_leave_142 rfl ⟨rfl, rfl⟩
          ·
            have hq := md_pos c114 hq
            refine q_aload_n dX13_leave_117 rfl ?_
            refine q_bipush (v := 7) dX13_leave_118 (by decide) ?_
            refine q_iconst (v := 0) dX13_leave_120 (by decide) ?_
            refine q_iconst (v := 0) dX13_leave_121 (by decide) ?_
            obtain ⟨S122, e122, hq⟩ := md_c_e hq
            refine q_cV (Y := mX13_value) (As := [.int 7, .int 0, .int 0]) (st := []) (b := m) (ci := 15) vc_X13_value dX13_leave_122 ml_RX13_443 rfl md_obj rfl (Nat.le_of_ble_eq_true rfl) rfl (Nat.le_of_ble_eq_true rfl) (ro_value (d := d + 1) hG hm e122) (fun v h1 hq1 => ?_) (fun E h1 hq1 => md_nV hq1)
            obtain ⟨hv, rfl⟩ := hq1
            cases hv
            show mv_rq l G mX13_leave (d + 2) 125 [some (.ref m), some (.int x1), some (.int (S7.2 72 x1.toNatClampNeg)), none] [] (md_H G B m S122) _
            refine q_goto (tgt := 142) dX13_leave_125 (by decide) ?_
            obtain rfl := Option.some.inj hq
            exact q_vret dX13_leave_142 rfl ⟨rfl, rfl⟩
def mo_stepNode_j228 (N : Nat) (x1 : Int32) (y0 : Int32) (S : md_S) : Option md_S :=
  if md_bo y0 then
  md_l (md_p S 60 y0) fun S228 =>
  if md_in x1 8 then
  if md_in (S228.2 64 x1.toNatClampNeg) 170 then
  if md_in x1 8 then
  md_l (md_w S228 68 x1.toNatClampNeg (S228.2 38 (S228.2 64 x1.toNatClampNeg).toNatClampNeg)) fun S247 =>
  if md_in x1 8 then
  md_l (md_w S247 62 x1.toNatClampNeg 2) fun S254 =>
  some S254
  else none
  else none
  else none
  else none
  else none
theorem ro_stepNode_j228 {l : Launch} {G : mv_G} {B : mv_H} {m N d : Nat} (hG : mv_ok G) (hm : G.2.2.1 ≤ m) {x1 : Int32} {y0 : Int32} {S : md_S} {q : md_S} (hq : mo_stepNode_j228 N x1 y0 S = some q) : mv_rq l G mX13_stepNode d 228 [some (.ref m), some (.int x1), none] [.int y0, .ref m] (md_H G B m S) (md_V G B m q) := by
  unfold mo_stepNode_j228 at hq
  obtain ⟨g228, hq⟩ := md_g hq
  refine r_puti 60 .boolean dX13_stepNode_228 fl_RX13_419 (by decide) rfl ki_60 rfl kp_60 (md_bnar g228) (md_bfit g228) hm (fun S228 e228 => ?_)
  have hq := md_l_e e228 hq
  clear e228
  show mv_rq l G mX13_stepNode d 231 [some (.ref m), some (.int x1), none] [] (md_H G B m S228) _
  refine q_aload_n dX13_stepNode_231 rfl ?_
  refine r_geta 68 dX13_stepNode_232 fl_RX13_148 (by decide) rfl kk_68 ?_
  refine q_iload_n dX13_stepNode_235 rfl ?_
  refine q_aload_n dX13_stepNode_236 rfl ?_
  refine r_geta 38 dX13_stepNode_237 fl_RX13_70 (by decide) rfl kk_38 ?_
  refine q_aload_n dX13_stepNode_240 rfl ?_
  refine r_geta 64 dX13_stepNode_241 fl_RX13_136 (by decide) rfl kk_64 ?_
  refine q_iload_n dX13_stepNode_244 rfl ?_
  obtain ⟨g245, hq⟩ := md_g hq
  refine r_iald hG 64 dX13_stepNode_245 kk_64 g245 ?_
  obtain ⟨g246, hq⟩ := md_g hq
  refine r_iald hG 38 dX13_stepNode_246 kk_38 g246 ?_
  obtain ⟨g247, hq⟩ := md_g hq
  refine r_iast hG hm 68 dX13_stepNode_247 kk_68 g247 (fun S247 e247 => ?_)
  have hq := md_l_e e247 hq
  clear e247
  show mv_rq l G mX13_stepNode d 248 [some (.ref m), some (.int x1), none] [] (md_H G B m S247) _
  refine q_aload_n dX13_stepNode_248 rfl ?_
  refine r_geta 62 dX13_stepNode_249 fl_RX13_130 (by decide) rfl kk_62 ?_
  refine q_iload_n dX13_stepNode_252 rfl ?_
  refine q_iconst (v := 2) dX13_stepNode_253 (by decide) ?_
  obtain ⟨g254, hq⟩ := md_g hq
  refine r_iast hG hm 62 dX13_stepNode_254 kk_62 g254 (fun S254 e254 => ?_)
  have hq := md_l_e e254 hq
  clear e254
  show mv_rq l G mX13_stepNode d 255 [some (.ref m), some (.int x1), none] [] (md_H G B m S254) _
  obtain rfl := Option.some.inj hq
  exact q_vret dX13_stepNode_255 rfl ⟨rfl, rfl⟩
def mo_stepNode_j223 (N : Nat) (x1 : Int32) (S : md_S) : Option md_S :=
  mo_stepNode_j228 N x1 1 S
theorem ro_stepNode_j223 {l : Launch} {G : mv_G} {B : mv_H} {m N d : Nat} (hG : mv_ok G) (hm : G.2.2.1 ≤ m) {x1 : Int32} {S : md_S} {q : md_S} (hq : mo_stepNode_j223 N x1 S = some q) : mv_rq l G mX13_stepNode d 223 [some (.ref m), some (.int x1), none] [.ref m] (md_H G B m S) (md_V G B m q) := by
  unfold mo_stepNode_j223 at hq
  refine q_iconst (v := 1) dX13_stepNode_223 (by decide) ?_
  refine q_goto (tgt := 228) dX13_stepNode_224 (by decide) ?_
  refine mv_weak (A := [some (.ref m), some (.int x1), none]) (by repeat' constructor) ?_
  exact ro_stepNode_j228 hG hm hq
def mo_stepNode_j195 (N : Nat) (x1 : Int32) (S : md_S) : Option md_S :=
  md_l (md_p S 61 ((S.1 61) + 1)) fun S202 =>
  if (S202.1 60) = 0 then
    if (S202.1 61) ≤ 1000000 then
      mo_stepNode_j228 N x1 0 S202
    else
      mo_stepNode_j223 N x1 S202
  else
    mo_stepNode_j223 N x1 S202
theorem ro_stepNode_j195 {l : Launch} {G : mv_G} {B : mv_H} {m N d : Nat} (hG : mv_ok G) (hm : G.2.2.1 ≤ m) {x1 : Int32} {S : md_S} {q : md_S} (hq : mo_stepNode_j195 N x1 S = some q) : mv_rq l G mX13_stepNode d 195 [some (.ref m), some (.int x1), none] [] (md_H G B m S) (md_V G B m q) := by
  unfold mo_stepNode_j195 at hq
  refine q_aload_n dX13_stepNode_195 rfl ?_
  refine q_dup dX13_stepNode_196 rfl ?_
  refine r_geti 61 dX13_stepNode_197 fl_RX13_449 (by decide) rfl ki_61 ?_
  refine q_iconst (v := 1) dX13_stepNode_200 (by decide) ?_
  refine q_iadd dX13_stepNode_201 ?_
  refine r_puti 61 .int dX13_stepNode_202 fl_RX13_449 (by decide) rfl ki_61 rfl kp_61 rfl rfl hm (fun S202 e202 => ?_)
  have hq := md_l_e e202 hq
  clear e202
  show mv_rq l G mX13_stepNode d 205 [some (.ref m), some (.int x1), none] [] (md_H G B m S202) _
  refine q_aload_n dX13_stepNode_205 rfl ?_
  refine q_aload_n dX13_stepNode_206 rfl ?_
  refine r_geti 60 dX13_stepNode_207 fl_RX13_419 (by decide) rfl ki_60 ?_
  refine q_if_ne (tgt := 223) dX13_stepNode_210 (by decide) (fun c210 => ?_) (fun c210 => ?_)
  ·
    have hq := md_neg c210 hq
    refine mv_weak (A := [some (.ref m), some (.int x1), none]) (by repeat' constructor) ?_
    exact ro_stepNode_j223 hG hm hq
  ·
    have hq := md_pos c210 hq
    refine q_aload_n dX13_stepNode_213 rfl ?_
    refine r_geti 61 dX13_stepNode_214 fl_RX13_449 (by decide) rfl ki_61 ?_
    refine q_ldcw dX13_stepNode_217 ct_RX13_452 ?_
    refine q_icmp_le (tgt := 227) dX13_stepNode_220 (by decide) (fun c220 => ?_) (fun c220 => ?_)
    ·
      have hq := md_pos c220 hq
      refine q_iconst (v := 0) dX13_stepNode_227 (by decide) ?_
      refine mv_weak (A := [some (.ref m), some (.int x1), none]) (by repeat' constructor) ?_
      exact ro_stepNode_j228 hG hm hq
    ·
      have hq := md_neg c220 hq
      refine mv_weak (A := [some (.ref m), some (.int x1), none]) (by repeat' constructor) ?_
      exact ro_stepNode_j223 hG hm hq
def mo_stepNode_l83 (N : Nat) : Nat → Int32 → Int32 → md_S → Option md_S
  | 0, _, _, _ => none
  | n + 1, x1, x2, S =>
    if md_in x1 8 then
    if (S.2 73 x1.toNatClampNeg) ≤ x2 then
      if md_in x1 8 then
      if md_in x1 8 then
      md_l (md_w S 72 x1.toNatClampNeg (S.2 73 x1.toNatClampNeg)) fun S134 =>
      if md_in x1 8 then
      if md_in (S134.2 64 x1.toNatClampNeg) 170 then
      if md_in x1 8 then
      md_l (md_w S134 64 x1.toNatClampNeg (S134.2 37 (S134.2 64 x1.toNatClampNeg).toNatClampNeg)) fun S151 =>
      if md_in x1 8 then
      md_l (md_w S151 62 x1.toNatClampNeg 0) fun S158 =>
      some S158
      else none
      else none
      else none
      else none
      else none
      else none
    else
      if md_in ((300 * x1) + x2) 2400 then
      if md_in ((300 * x1) + x2) 2400 then
      md_l (md_w S 74 ((300 * x1) + x2).toNatClampNeg (S.2 75 ((300 * x1) + x2).toNatClampNeg)) fun S116 =>
      mo_stepNode_l83 N n x1 (x2 + 1) S116
      else none
      else none
    else none
theorem ro_stepNode_l83 {l : Launch} {G : mv_G} {B : mv_H} {m N d : Nat} (hG : mv_ok G) (hm : G.2.2.1 ≤ m) : ∀ n : Nat, ∀ {x1 : Int32} {x2 : Int32} {S : md_S} {q : md_S}, mo_stepNode_l83 N n x1 x2 S = some q → mv_rq l G mX13_stepNode d 83 [some (.ref m), some (.int x1), some (.int x2)] [] (md_H G B m S) (md_V G B m q)
  | 0, _, _, _, _, hq => nomatch hq
  | n + 1, x1, x2, S, q, hq => by
    rw [mo_stepNode_l83] at hq
    refine q_iload_n dX13_stepNode_83 rfl ?_
    refine q_aload_n dX13_stepNode_84 rfl ?_
    refine r_geta 73 dX13_stepNode_85 fl_RX13_163 (by decide) rfl kk_73 ?_
    refine q_iload_n dX13_stepNode_88 rfl ?_
    obtain ⟨g89, hq⟩ := md_g hq
    refine r_iald hG 73 dX13_stepNode_89 kk_73 g89 ?_
    refine q_icmp_ge (tgt := 123) dX13_stepNode_90 (by decide) (fun c90 => ?_) (fun c90 => ?_)
    ·
      have hq := md_pos c90 hq
      refine q_aload_n dX13_stepNode_123 rfl ?_
      refine r_geta 72 dX13_stepNode_124 fl_RX13_160 (by decide) rfl kk_72 ?_
      refine q_iload_n dX13_stepNode_127 rfl ?_
      refine q_aload_n dX13_stepNode_128 rfl ?_
      refine r_geta 73 dX13_stepNode_129 fl_RX13_163 (by decide) rfl kk_73 ?_
      refine q_iload_n dX13_stepNode_132 rfl ?_
      obtain ⟨g133, hq⟩ := md_g hq
      refine r_iald hG 73 dX13_stepNode_133 kk_73 g133 ?_
      obtain ⟨g134, hq⟩ := md_g hq
      refine r_iast hG hm 72 dX13_stepNode_134 kk_72 g134 (fun S134 e134 => ?_)
      have hq := md_l_e e134 hq
      clear e134
      show mv_rq l G mX13_stepNode d 135 [some (.ref m), some (.int x1), some (.int x2)] [] (md_H G B m S134) _
      refine q_aload_n dX13_stepNode_135 rfl ?_
      refine r_geta 64 dX13_stepNode_136 fl_RX13_136 (by decide) rfl kk_64 ?_
      refine q_iload_n dX13_stepNode_139 rfl ?_
      refine q_aload_n dX13_stepNode_140 rfl ?_
      refine r_geta 37 dX13_stepNode_141 fl_RX13_67 (by decide) rfl kk_37 ?_
      refine q_aload_n dX13_stepNode_144 rfl ?_
      refine r_geta 64 dX13_stepNode_145 fl_RX13_136 (by decide) rfl kk_64 ?_
      refine q_iload_n dX13_stepNode_148 rfl ?_
      obtain ⟨g149, hq⟩ := md_g hq
      refine r_iald hG 64 dX13_stepNode_149 kk_64 g149 ?_
      obtain ⟨g150, hq⟩ := md_g hq
      refine r_iald hG 37 dX13_stepNode_150 kk_37 g150 ?_
      obtain ⟨g151, hq⟩ := md_g hq
      refine r_iast hG hm 64 dX13_stepNode_151 kk_64 g151 (fun S151 e151 => ?_)
      have hq := md_l_e e151 hq
      clear e151
      show mv_rq l G mX13_stepNode d 152 [some (.ref m), some (.int x1), some (.int x2)] [] (md_H G B m S151) _
      refine q_aload_n dX13_stepNode_152 rfl ?_
      refine r_geta 62 dX13_stepNode_153 fl_RX13_130 (by decide) rfl kk_62 ?_
      refine q_iload_n dX13_stepNode_156 rfl ?_
      refine q_iconst (v := 0) dX13_stepNode_157 (by decide) ?_
      obtain ⟨g158, hq⟩ := md_g hq
      refine r_iast hG hm 62 dX13_stepNode_158 kk_62 g158 (fun S158 e158 => ?_)
      have hq := md_l_e e158 hq
      clear e158
      show mv_rq l G mX13_stepNode d 159 [some (.ref m), some (.int x1), some (.int x2)] [] (md_H G B m S158) _
      obtain rfl := Option.some.inj hq
      exact q_vret dX13_stepNode_159 rfl ⟨rfl, rfl⟩
    ·
      have hq := md_neg c90 hq
      refine q_aload_n dX13_stepNode_93 rfl ?_
      refine r_geta 74 dX13_stepNode_94 fl_RX13_166 (by decide) rfl kk_74 ?_
      refine q_sipush (v := 300) dX13_stepNode_97 (by decide) ?_
      refine q_iload_n dX13_stepNode_100 rfl ?_
      refine q_imul dX13_stepNode_101 ?_
      refine q_iload_n dX13_stepNode_102 rfl ?_
      refine q_iadd dX13_stepNode_103 ?_
      refine q_aload_n dX13_stepNode_104 rfl ?_
      refine r_geta 75 dX13_stepNode_105 fl_RX13_169 (by decide) rfl kk_75 ?_
      refine q_sipush (v := 300) dX13_stepNode_108 (by decide) ?_
      refine q_iload_n dX13_stepNode_111 rfl ?_
      refine q_imul dX13_stepNode_112 ?_
      refine q_iload_n dX13_stepNode_113 rfl ?_
      refine q_iadd dX13_stepNode_114 ?_
      obtain ⟨g115, hq⟩ := md_g hq
      refine r_iald hG 75 dX13_stepNode_115 kk_75 g115 ?_
      obtain ⟨g116, hq⟩ := md_g hq
      refine r_iast hG hm 74 dX13_stepNode_116 kk_74 g116 (fun S116 e116 => ?_)
      have hq := md_l_e e116 hq
      clear e116
      show mv_rq l G mX13_stepNode d 117 [some (.ref m), some (.int x1), some (.int x2)] [] (md_H G B m S116) _
      refine q_iinc dX13_stepNode_117 rfl rfl ?_
      show mv_rq l G mX13_stepNode d 120 [some (.ref m), some (.int x1), some (.int (x2 + 1))] [] (md_H G B m S116) _
      refine q_goto (tgt := 83) dX13_stepNode_120 (by decide) ?_
      refine mv_weak (A := [some (.ref m), some (.int x1), some (.int (x2 + 1))]) (by repeat' constructor) ?_
      exact ro_stepNode_l83 hG hm n hq
def mo_stepNode_j56 (N : Nat) (x1 : Int32) (S : md_S) : Option md_S :=
  if md_in x1 8 then
  if md_in x1 8 then
  md_l (md_w S 65 x1.toNatClampNeg ((S.2 65 x1.toNatClampNeg) + 1)) fun S65 =>
  if md_in x1 8 then
  if md_in x1 8 then
  if (S65.2 65 x1.toNatClampNeg) = (S65.2 72 x1.toNatClampNeg) then
    mo_stepNode_l83 N N x1 0 S65
  else
    if md_in x1 8 then
    if md_in ((300 * x1) + (S65.2 65 x1.toNatClampNeg)) 2400 then
    if md_in x1 8 then
    md_l (md_w S65 66 x1.toNatClampNeg (S65.2 74 ((300 * x1) + (S65.2 65 x1.toNatClampNeg)).toNatClampNeg)) fun S182 =>
    if md_in x1 8 then
    if md_in x1 8 then
    md_l (md_w S182 67 x1.toNatClampNeg (S182.2 66 x1.toNatClampNeg)) fun S194 =>
    mo_stepNode_j195 N x1 S194
    else none
    else none
    else none
    else none
    else none
  else none
  else none
  else none
  else none
theorem ro_stepNode_j56 {l : Launch} {G : mv_G} {B : mv_H} {m N d : Nat} (hG : mv_ok G) (hm : G.2.2.1 ≤ m) {x1 : Int32} {S : md_S} {q : md_S} (hq : mo_stepNode_j56 N x1 S = some q) : mv_rq l G mX13_stepNode d 56 [some (.ref m), some (.int x1), none] [] (md_H G B m S) (md_V G B m q) := by
  unfold mo_stepNode_j56 at hq
  refine q_aload_n dX13_stepNode_56 rfl ?_
  refine r_geta 65 dX13_stepNode_57 fl_RX13_139 (by decide) rfl kk_65 ?_
  refine q_iload_n dX13_stepNode_60 rfl ?_
  refine q_dup2_11 dX13_stepNode_61 rfl rfl ?_
  obtain ⟨g62, hq⟩ := md_g hq
  refine r_iald hG 65 dX13_stepNode_62 kk_65 g62 ?_
  refine q_iconst (v := 1) dX13_stepNode_63 (by decide) ?_
  refine q_iadd dX13_stepNode_64 ?_
  obtain ⟨g65, hq⟩ := md_g hq
  refine r_iast hG hm 65 dX13_stepNode_65 kk_65 g65 (fun S65 e65 => ?_)
  have hq := md_l_e e65 hq
  clear e65
  show mv_rq l G mX13_stepNode d 66 [some (.ref m), some (.int x1), none] [] (md_H G B m S65) _
  refine q_aload_n dX13_stepNode_66 rfl ?_
  refine r_geta 65 dX13_stepNode_67 fl_RX13_139 (by decide) rfl kk_65 ?_
  refine q_iload_n dX13_stepNode_70 rfl ?_
  obtain ⟨g71, hq⟩ := md_g hq
  refine r_iald hG 65 dX13_stepNode_71 kk_65 g71 ?_
  refine q_aload_n dX13_stepNode_72 rfl ?_
  refine r_geta 72 dX13_stepNode_73 fl_RX13_160 (by decide) rfl kk_72 ?_
  refine q_iload_n dX13_stepNode_76 rfl ?_
  obtain ⟨g77, hq⟩ := md_g hq
  refine r_iald hG 72 dX13_stepNode_77 kk_72 g77 ?_
  refine q_icmp_ne (tgt := 160) dX13_stepNode_78 (by decide) (fun c78 => ?_) (fun c78 => ?_)
  ·
    have hq := md_neg c78 hq
    refine q_aload_n dX13_stepNode_160 rfl ?_
    refine r_geta 66 dX13_stepNode_161 fl_RX13_142 (by decide) rfl kk_66 ?_
    refine q_iload_n dX13_stepNode_164 rfl ?_
    refine q_aload_n dX13_stepNode_165 rfl ?_
    refine r_geta 74 dX13_stepNode_166 fl_RX13_166 (by decide) rfl kk_74 ?_
    refine q_sipush (v := 300) dX13_stepNode_169 (by decide) ?_
    refine q_iload_n dX13_stepNode_172 rfl ?_
    refine q_imul dX13_stepNode_173 ?_
    refine q_aload_n dX13_stepNode_174 rfl ?_
    refine r_geta 65 dX13_stepNode_175 fl_RX13_139 (by decide) rfl kk_65 ?_
    refine q_iload_n dX13_stepNode_178 rfl ?_
    obtain ⟨g179, hq⟩ := md_g hq
    refine r_iald hG 65 dX13_stepNode_179 kk_65 g179 ?_
    refine q_iadd dX13_stepNode_180 ?_
    obtain ⟨g181, hq⟩ := md_g hq
    refine r_iald hG 74 dX13_stepNode_181 kk_74 g181 ?_
    obtain ⟨g182, hq⟩ := md_g hq
    refine r_iast hG hm 66 dX13_stepNode_182 kk_66 g182 (fun S182 e182 => ?_)
    have hq := md_l_e e182 hq
    clear e182
    show mv_rq l G mX13_stepNode d 183 [some (.ref m), some (.int x1), none] [] (md_H G B m S182) _
    refine q_aload_n dX13_stepNode_183 rfl ?_
    refine r_geta 67 dX13_stepNode_184 fl_RX13_145 (by decide) rfl kk_67 ?_
    refine q_iload_n dX13_stepNode_187 rfl ?_
    refine q_aload_n dX13_stepNode_188 rfl ?_
    refine r_geta 66 dX13_stepNode_189 fl_RX13_142 (by decide) rfl kk_66 ?_
    refine q_iload_n dX13_stepNode_192 rfl ?_
    obtain ⟨g193, hq⟩ := md_g hq
    refine r_iald hG 66 dX13_stepNode_193 kk_66 g193 ?_
    obtain ⟨g194, hq⟩ := md_g hq
    refine r_iast hG hm 67 dX13_stepNode_194 kk_67 g194 (fun S194 e194 => ?_)
    have hq := md_l_e e194 hq
    clear e194
    show mv_rq l G mX13_stepNode d 195 [some (.ref m), some (.int x1), none] [] (md_H G B m S194) _
    refine mv_weak (A := [some (.ref m), some (.int x1), none]) (by repeat' constructor) ?_
    exact ro_stepNode_j195 hG hm hq
  ·
    have hq := md_pos c78 hq
    refine q_iconst (v := 0) dX13_stepNode_81 (by decide) ?_
    refine q_istore_n dX13_stepNode_82 (Nat.le_of_ble_eq_true rfl) rfl ?_
    show mv_rq l G mX13_stepNode d 83 [some (.ref m), some (.int x1), some (.int 0)] [] (md_H G B m S65) _
    refine mv_weak (A := [some (.ref m), some (.int x1), some (.int 0)]) (by repeat' constructor) ?_
    exact ro_stepNode_l83 hG hm N hq
def mo_stepNode (N : Nat) (x1 : Int32) (S : md_S) : Option md_S :=
  if md_in x1 8 then
  if (S.2 65 x1.toNatClampNeg) < 0 then
    mo_stepNode_j56 N x1 S
  else
    if md_in x1 8 then
    if md_in (S.2 64 x1.toNatClampNeg) 170 then
    if (S.2 42 (S.2 64 x1.toNatClampNeg).toNatClampNeg) = 0 then
      mo_stepNode_j56 N x1 S
    else
      if md_in x1 8 then
      if md_in x1 8 then
      if md_in (S.2 66 x1.toNatClampNeg) 41 then
      if (S.2 14 (S.2 66 x1.toNatClampNeg).toNatClampNeg) ≤ (S.2 67 x1.toNatClampNeg) then
        mo_stepNode_j56 N x1 S
      else
        if md_in x1 8 then
        if md_in x1 8 then
        md_l (md_w S 67 x1.toNatClampNeg ((S.2 67 x1.toNatClampNeg) + 1)) fun S52 =>
        mo_stepNode_j195 N x1 S52
        else none
        else none
      else none
      else none
      else none
    else none
    else none
  else none
theorem ro_stepNode {l : Launch} {G : mv_G} {B : mv_H} {m N d : Nat} (hG : mv_ok G) (hm : G.2.2.1 ≤ m) {x1 : Int32} {S : md_S} {q : md_S} (hq : mo_stepNode N x1 S = some q) : mv_rq l G mX13_stepNode d 0 (mv_in [.ref m, .int x1] 3) [] (md_H G B m S) (md_V G B m q) := by
  unfold mo_stepNode at hq
  show mv_rq l G mX13_stepNode d 0 [some (.ref m), some (.int x1), none] [] (md_H G B m S) _
  refine q_aload_n dX13_stepNode_0 rfl ?_
  refine r_geta 65 dX13_stepNode_1 fl_RX13_139 (by decide) rfl kk_65 ?_
  refine q_iload_n dX13_stepNode_4 rfl ?_
  obtain ⟨g5, hq⟩ := md_g hq
  refine r_iald hG 65 dX13_stepNode_5 kk_65 g5 ?_
  refine q_if_lt (tgt := 56) dX13_stepNode_6 (by decide) (fun c6 => ?_) (fun c6 => ?_)
  ·
    have hq := md_pos c6 hq
    refine mv_weak (A := [some (.ref m), some (.int x1), none]) (by repeat' constructor) ?_
    exact ro_stepNode_j56 hG hm hq
  ·
    have hq := md_neg c6 hq
    refine q_aload_n dX13_stepNode_9 rfl ?_
    refine r_geta 42 dX13_stepNode_10 fl_RX13_82 (by decide) rfl kk_42 ?_
    refine q_aload_n dX13_stepNode_13 rfl ?_
    refine r_geta 64 dX13_stepNode_14 fl_RX13_136 (by decide) rfl kk_64 ?_
    refine q_iload_n dX13_stepNode_17 rfl ?_
    obtain ⟨g18, hq⟩ := md_g hq
    refine r_iald hG 64 dX13_stepNode_18 kk_64 g18 ?_
    obtain ⟨g19, hq⟩ := md_g hq
    refine r_zald hG 42 dX13_stepNode_19 kk_42 g19 ?_
    refine q_if_eq (tgt := 56) dX13_stepNode_20 (by decide) (fun c20 => ?_) (fun c20 => ?_)
    ·
      have hq := md_pos c20 hq
      refine mv_weak (A := [some (.ref m), some (.int x1), none]) (by repeat' constructor) ?_
      exact ro_stepNode_j56 hG hm hq
    ·
      have hq := md_neg c20 hq
      refine q_aload_n dX13_stepNode_23 rfl ?_
      refine r_geta 67 dX13_stepNode_24 fl_RX13_145 (by decide) rfl kk_67 ?_
      refine q_iload_n dX13_stepNode_27 rfl ?_
      obtain ⟨g28, hq⟩ := md_g hq
      refine r_iald hG 67 dX13_stepNode_28 kk_67 g28 ?_
      refine q_aload_n dX13_stepNode_29 rfl ?_
      refine r_geta 14 dX13_stepNode_30 fl_RX13_30 (by decide) rfl kk_14 ?_
      refine q_aload_n dX13_stepNode_33 rfl ?_
      refine r_geta 66 dX13_stepNode_34 fl_RX13_142 (by decide) rfl kk_66 ?_
      refine q_iload_n dX13_stepNode_37 rfl ?_
      obtain ⟨g38, hq⟩ := md_g hq
      refine r_iald hG 66 dX13_stepNode_38 kk_66 g38 ?_
      obtain ⟨g39, hq⟩ := md_g hq
      refine r_iald hG 14 dX13_stepNode_39 kk_14 g39 ?_
      refine q_icmp_ge (tgt := 56) dX13_stepNode_40 (by decide) (fun c40 => ?_) (fun c40 => ?_)
      ·
        have hq := md_pos c40 hq
        refine mv_weak (A := [some (.ref m), some (.int x1), none]) (by repeat' constructor) ?_
        exact ro_stepNode_j56 hG hm hq
      ·
        have hq := md_neg c40 hq
        refine q_aload_n dX13_stepNode_43 rfl ?_
        refine r_geta 67 dX13_stepNode_44 fl_RX13_145 (by decide) rfl kk_67 ?_
        refine q_iload_n dX13_stepNode_47 rfl ?_
        refine q_dup2_11 dX13_stepNode_48 rfl rfl ?_
        obtain ⟨g49, hq⟩ := md_g hq
        refine r_iald hG 67 dX13_stepNode_49 kk_67 g49 ?_
        refine q_iconst (v := 1) dX13_stepNode_50 (by decide) ?_
        refine q_iadd dX13_stepNode_51 ?_
        obtain ⟨g52, hq⟩ := md_g hq
        refine r_iast hG hm 67 dX13_stepNode_52 kk_67 g52 (fun S52 e52 => ?_)
        have hq := md_l_e e52 hq
        clear e52
        show mv_rq l G mX13_stepNode d 53 [some (.ref m), some (.int x1), none] [] (md_H G B m S52) _
        refine q_goto (tgt := 195) dX13_stepNode_53 (by decide) ?_
        refine mv_weak (A := [some (.ref m), some (.int x1), none]) (by repeat' constructor) ?_
        exact ro_stepNode_j195 hG hm hq
def mo_stepSelector (N : Nat) (x1 : Int32) (S : md_S) : Option md_S :=
  if md_in x1 8 then
  if (S.2 68 x1.toNatClampNeg) = (-1) then
    if md_in x1 8 then
    md_l (md_w S 62 x1.toNatClampNeg 1) fun S18 =>
    some S18
    else none
  else
    if md_in (S.2 68 x1.toNatClampNeg) 170 then
    if md_in x1 8 then
    md_l (md_w S 68 x1.toNatClampNeg (S.2 44 (S.2 68 x1.toNatClampNeg).toNatClampNeg)) fun S31 =>
    if md_in (S.2 68 x1.toNatClampNeg) 170 then
    if (S31.2 43 (S.2 68 x1.toNatClampNeg).toNatClampNeg) = 4 then
      if md_in (S.2 68 x1.toNatClampNeg) 170 then
      if md_in x1 8 then
      md_l (md_w S31 69 x1.toNatClampNeg (S31.2 45 (S.2 68 x1.toNatClampNeg).toNatClampNeg)) fun S53 =>
      if md_in x1 8 then
      if md_in x1 8 then
      md_l (md_w S53 70 x1.toNatClampNeg (S53.2 67 x1.toNatClampNeg)) fun S65 =>
      if md_in x1 8 then
      md_l (md_w S65 62 x1.toNatClampNeg 3) fun S72 =>
      some S72
      else none
      else none
      else none
      else none
      else none
    else
      md_c (mo_select N x1 (S.2 68 x1.toNatClampNeg) S31) fun S79 =>
      some S79
    else none
    else none
    else none
  else none
theorem ro_stepSelector {l : Launch} {G : mv_G} {B : mv_H} {m N d : Nat} (hG : mv_ok G) (hm : G.2.2.1 ≤ m) {x1 : Int32} {S : md_S} {q : md_S} (hq : mo_stepSelector N x1 S = some q) : mv_rq l G mX13_stepSelector (d + 5) 0 (mv_in [.ref m, .int x1] 3) [] (md_H G B m S) (md_V G B m q) := by
  unfold mo_stepSelector at hq
  show mv_rq l G mX13_stepSelector (d + 5) 0 [some (.ref m), some (.int x1), none] [] (md_H G B m S) _
  refine q_aload_n dX13_stepSelector_0 rfl ?_
  refine r_geta 68 dX13_stepSelector_1 fl_RX13_148 (by decide) rfl kk_68 ?_
  refine q_iload_n dX13_stepSelector_4 rfl ?_
  obtain ⟨g5, hq⟩ := md_g hq
  refine r_iald hG 68 dX13_stepSelector_5 kk_68 g5 ?_
  refine q_istore_n dX13_stepSelector_6 (Nat.le_of_ble_eq_true rfl) rfl ?_
  show mv_rq l G mX13_stepSelector (d + 5) 7 [some (.ref m), some (.int x1), some (.int (S.2 68 x1.toNatClampNeg))] [] (md_H G B m S) _
  refine q_iload_n dX13_stepSelector_7 rfl ?_
  refine q_iconst (v := (-1)) dX13_stepSelector_8 (by decide) ?_
  refine q_icmp_ne (tgt := 20) dX13_stepSelector_9 (by decide) (fun c9 => ?_) (fun c9 => ?_)
  ·
    have hq := md_neg c9 hq
    refine q_aload_n dX13_stepSelector_20 rfl ?_
    refine r_geta 68 dX13_stepSelector_21 fl_RX13_148 (by decide) rfl kk_68 ?_
    refine q_iload_n dX13_stepSelector_24 rfl ?_
    refine q_aload_n dX13_stepSelector_25 rfl ?_
    refine r_geta 44 dX13_stepSelector_26 fl_RX13_88 (by decide) rfl kk_44 ?_
    refine q_iload_n dX13_stepSelector_29 rfl ?_
    obtain ⟨g30, hq⟩ := md_g hq
    refine r_iald hG 44 dX13_stepSelector_30 kk_44 g30 ?_
    obtain ⟨g31, hq⟩ := md_g hq
    refine r_iast hG hm 68 dX13_stepSelector_31 kk_68 g31 (fun S31 e31 => ?_)
    have hq := md_l_e e31 hq
    clear e31
    show mv_rq l G mX13_stepSelector (d + 5) 32 [some (.ref m), some (.int x1), some (.int (S.2 68 x1.toNatClampNeg))] [] (md_H G B m S31) _
    refine q_aload_n dX13_stepSelector_32 rfl ?_
    refine r_geta 43 dX13_stepSelector_33 fl_RX13_85 (by decide) rfl kk_43 ?_
    refine q_iload_n dX13_stepSelector_36 rfl ?_
    obtain ⟨g37, hq⟩ := md_g hq
    refine r_iald hG 43 dX13_stepSelector_37 kk_43 g37 ?_
    refine q_iconst (v := 4) dX13_stepSelector_38 (by decide) ?_
    refine q_icmp_ne (tgt := 76) dX13_stepSelector_39 (by decide) (fun c39 => ?_) (fun c39 => ?_)
    ·
      have hq := md_neg c39 hq
      refine q_aload_n dX13_stepSelector_76 rfl ?_
      refine q_iload_n dX13_stepSelector_77 rfl ?_
      refine q_iload_n dX13_stepSelector_78 rfl ?_
      obtain ⟨S79, e79, hq⟩ := md_c_e hq
      refine q_cV (Y := mX13_select) (As := [.int x1, .int (S.2 68 x1.toNatClampNeg)]) (st := []) (b := m) (ci := 15) vc_X13_select dX13_stepSelector_79 ml_RX13_453 rfl md_obj rfl (Nat.le_of_ble_eq_true rfl) rfl (Nat.le_of_ble_eq_true rfl) (ro_select (d := d) hG hm e79) (fun v h1 hq1 => ?_) (fun E h1 hq1 => md_nV hq1)
      obtain ⟨hv, rfl⟩ := hq1
      cases hv
      show mv_rq l G mX13_stepSelector (d + 5) 82 [some (.ref m), some (.int x1), some (.int (S.2 68 x1.toNatClampNeg))] [] (md_H G B m S79) _
      obtain rfl := Option.some.inj hq
      exact q_vret dX13_stepSelector_82 rfl ⟨rfl, rfl⟩
    ·
      have hq := md_pos c39 hq
      refine q_aload_n dX13_stepSelector_42 rfl ?_
      refine r_geta 69 dX13_stepSelector_43 fl_RX13_151 (by decide) rfl kk_69 ?_
      refine q_iload_n dX13_stepSelector_46 rfl ?_
      refine q_aload_n dX13_stepSelector_47 rfl ?_
      refine r_geta 45 dX13_stepSelector_48 fl_RX13_91 (by decide) rfl kk_45 ?_
      refine q_iload_n dX13_stepSelector_51 rfl ?_
      obtain ⟨g52, hq⟩ := md_g hq
      refine r_iald hG 45 dX13_stepSelector_52 kk_45 g52 ?_
      obtain ⟨g53, hq⟩ := md_g hq
      refine r_iast hG hm 69 dX13_stepSelector_53 kk_69 g53 (fun S53 e53 => ?_)
      have hq := md_l_e e53 hq
      clear e53
      show mv_rq l G mX13_stepSelector (d + 5) 54 [some (.ref m), some (.int x1), some (.int (S.2 68 x1.toNatClampNeg))] [] (md_H G B m S53) _
      refine q_aload_n dX13_stepSelector_54 rfl ?_
      refine r_geta 70 dX13_stepSelector_55 fl_RX13_154 (by decide) rfl kk_70 ?_
      refine q_iload_n dX13_stepSelector_58 rfl ?_
      refine q_aload_n dX13_stepSelector_59 rfl ?_
      refine r_geta 67 dX13_stepSelector_60 fl_RX13_145 (by decide) rfl kk_67 ?_
      refine q_iload_n dX13_stepSelector_63 rfl ?_
      obtain ⟨g64, hq⟩ := md_g hq
      refine r_iald hG 67 dX13_stepSelector_64 kk_67 g64 ?_
      obtain ⟨g65, hq⟩ := md_g hq
      refine r_iast hG hm 70 dX13_stepSelector_65 kk_70 g65 (fun S65 e65 => ?_)
      have hq := md_l_e e65 hq
      clear e65
      show mv_rq l G mX13_stepSelector (d + 5) 66 [some (.ref m), some (.int x1), some (.int (S.2 68 x1.toNatClampNeg))] [] (md_H G B m S65) _
      refine q_aload_n dX13_stepSelector_66 rfl ?_
      refine r_geta 62 dX13_stepSelector_67 fl_RX13_130 (by decide) rfl kk_62 ?_
      refine q_iload_n dX13_stepSelector_70 rfl ?_
      refine q_iconst (v := 3) dX13_stepSelector_71 (by decide) ?_
      obtain ⟨g72, hq⟩ := md_g hq
      refine r_iast hG hm 62 dX13_stepSelector_72 kk_62 g72 (fun S72 e72 => ?_)
      have hq := md_l_e e72 hq
      clear e72
      show mv_rq l G mX13_stepSelector (d + 5) 73 [some (.ref m), some (.int x1), some (.int (S.2 68 x1.toNatClampNeg))] [] (md_H G B m S72) _
      refine q_goto (tgt := 82) dX13_stepSelector_73 (by decide) ?_
      obtain rfl := Option.some.inj hq
      exact q_vret dX13_stepSelector_82 rfl ⟨rfl, rfl⟩
  ·
    have hq := md_pos c9 hq
    refine q_aload_n dX13_stepSelector_12 rfl ?_
    refine r_geta 62 dX13_stepSelector_13 fl_RX13_130 (by decide) rfl kk_62 ?_
    refine q_iload_n dX13_stepSelector_16 rfl ?_
    refine q_iconst (v := 1) dX13_stepSelector_17 (by decide) ?_
    obtain ⟨g18, hq⟩ := md_g hq
    refine r_iast hG hm 62 dX13_stepSelector_18 kk_62 g18 (fun S18 e18 => ?_)
    have hq := md_l_e e18 hq
    clear e18
    show mv_rq l G mX13_stepSelector (d + 5) 19 [some (.ref m), some (.int x1), some (.int (S.2 68 x1.toNatClampNeg))] [] (md_H G B m S18) _
    obtain rfl := Option.some.inj hq
    exact q_vret dX13_stepSelector_19 rfl ⟨rfl, rfl⟩
def mo_stepChild (N : Nat) (x1 : Int32) (S : md_S) : Option md_S :=
  if md_in x1 8 then
  if md_in x1 8 then
  md_b (mo_follower N (S.2 67 x1.toNatClampNeg) (S.2 70 x1.toNatClampNeg) S) fun v13 S13 =>
  if v13 = (-1) then
    if md_in x1 8 then
    md_l (md_w S13 62 x1.toNatClampNeg 2) fun S28 =>
    some S28
    else none
  else
    if md_in x1 8 then
    md_l (md_w S13 70 x1.toNatClampNeg v13) fun S36 =>
    if md_in x1 8 then
    if md_in (S36.2 69 x1.toNatClampNeg) 50 then
    if md_in x1 8 then
    md_l (md_w S36 71 x1.toNatClampNeg (S36.2 49 (S36.2 69 x1.toNatClampNeg).toNatClampNeg)) fun S53 =>
    if md_in x1 8 then
    md_l (md_w S53 62 x1.toNatClampNeg 4) fun S60 =>
    some S60
    else none
    else none
    else none
    else none
    else none
  else none
  else none
theorem ro_stepChild {l : Launch} {G : mv_G} {B : mv_H} {m N d : Nat} (hG : mv_ok G) (hm : G.2.2.1 ≤ m) {x1 : Int32} {S : md_S} {q : md_S} (hq : mo_stepChild N x1 S = some q) : mv_rq l G mX13_stepChild (d + 1) 0 (mv_in [.ref m, .int x1] 3) [] (md_H G B m S) (md_V G B m q) := by
  unfold mo_stepChild at hq
  show mv_rq l G mX13_stepChild (d + 1) 0 [some (.ref m), some (.int x1), none] [] (md_H G B m S) _
  refine q_aload_n dX13_stepChild_0 rfl ?_
  refine q_aload_n dX13_stepChild_1 rfl ?_
  refine r_geta 67 dX13_stepChild_2 fl_RX13_145 (by decide) rfl kk_67 ?_
  refine q_iload_n dX13_stepChild_5 rfl ?_
  obtain ⟨g6, hq⟩ := md_g hq
  refine r_iald hG 67 dX13_stepChild_6 kk_67 g6 ?_
  refine q_aload_n dX13_stepChild_7 rfl ?_
  refine r_geta 70 dX13_stepChild_8 fl_RX13_154 (by decide) rfl kk_70 ?_
  refine q_iload_n dX13_stepChild_11 rfl ?_
  obtain ⟨g12, hq⟩ := md_g hq
  refine r_iald hG 70 dX13_stepChild_12 kk_70 g12 ?_
  obtain ⟨v13, S13, e13, hq⟩ := md_b_e hq
  refine q_cV (Y := mX13_follower) (As := [.int (S.2 67 x1.toNatClampNeg), .int (S.2 70 x1.toNatClampNeg)]) (st := []) (b := m) (ci := 15) vc_X13_follower dX13_stepChild_13 ml_RX13_415 rfl md_obj rfl (Nat.le_of_ble_eq_true rfl) rfl (Nat.le_of_ble_eq_true rfl) (ro_follower (d := d) hG hm e13) (fun v h1 hq1 => ?_) (fun E h1 hq1 => md_nQ hq1)
  obtain ⟨hv, rfl⟩ := hq1
  cases hv
  show mv_rq l G mX13_stepChild (d + 1) 16 [some (.ref m), some (.int x1), none] [.int v13] (md_H G B m S13) _
  refine q_istore_n dX13_stepChild_16 (Nat.le_of_ble_eq_true rfl) rfl ?_
  show mv_rq l G mX13_stepChild (d + 1) 17 [some (.ref m), some (.int x1), some (.int v13)] [] (md_H G B m S13) _
  refine q_iload_n dX13_stepChild_17 rfl ?_
  refine q_iconst (v := (-1)) dX13_stepChild_18 (by decide) ?_
  refine q_icmp_ne (tgt := 30) dX13_stepChild_19 (by decide) (fun c19 => ?_) (fun c19 => ?_)
  ·
    have hq := md_neg c19 hq
    refine q_aload_n dX13_stepChild_30 rfl ?_
    refine r_geta 70 dX13_stepChild_31 fl_RX13_154 (by decide) rfl kk_70 ?_
    refine q_iload_n dX13_stepChild_34 rfl ?_
    refine q_iload_n dX13_stepChild_35 rfl ?_
    obtain ⟨g36, hq⟩ := md_g hq
    refine r_iast hG hm 70 dX13_stepChild_36 kk_70 g36 (fun S36 e36 => ?_)
    have hq := md_l_e e36 hq
    clear e36
    show mv_rq l G mX13_stepChild (d + 1) 37 [some (.ref m), some (.int x1), some (.int v13)] [] (md_H G B m S36) _
    refine q_aload_n dX13_stepChild_37 rfl ?_
    refine r_geta 71 dX13_stepChild_38 fl_RX13_157 (by decide) rfl kk_71 ?_
    refine q_iload_n dX13_stepChild_41 rfl ?_
    refine q_aload_n dX13_stepChild_42 rfl ?_
    refine r_geta 49 dX13_stepChild_43 fl_RX13_103 (by decide) rfl kk_49 ?_
    refine q_aload_n dX13_stepChild_46 rfl ?_
    refine r_geta 69 dX13_stepChild_47 fl_RX13_151 (by decide) rfl kk_69 ?_
    refine q_iload_n dX13_stepChild_50 rfl ?_
    obtain ⟨g51, hq⟩ := md_g hq
    refine r_iald hG 69 dX13_stepChild_51 kk_69 g51 ?_
    obtain ⟨g52, hq⟩ := md_g hq
    refine r_iald hG 49 dX13_stepChild_52 kk_49 g52 ?_
    obtain ⟨g53, hq⟩ := md_g hq
    refine r_iast hG hm 71 dX13_stepChild_53 kk_71 g53 (fun S53 e53 => ?_)
    have hq := md_l_e e53 hq
    clear e53
    show mv_rq l G mX13_stepChild (d + 1) 54 [some (.ref m), some (.int x1), some (.int v13)] [] (md_H G B m S53) _
    refine q_aload_n dX13_stepChild_54 rfl ?_
    refine r_geta 62 dX13_stepChild_55 fl_RX13_130 (by decide) rfl kk_62 ?_
    refine q_iload_n dX13_stepChild_58 rfl ?_
    refine q_iconst (v := 4) dX13_stepChild_59 (by decide) ?_
    obtain ⟨g60, hq⟩ := md_g hq
    refine r_iast hG hm 62 dX13_stepChild_60 kk_62 g60 (fun S60 e60 => ?_)
    have hq := md_l_e e60 hq
    clear e60
    show mv_rq l G mX13_stepChild (d + 1) 61 [some (.ref m), some (.int x1), some (.int v13)] [] (md_H G B m S60) _
    obtain rfl := Option.some.inj hq
    exact q_vret dX13_stepChild_61 rfl ⟨rfl, rfl⟩
  ·
    have hq := md_pos c19 hq
    refine q_aload_n dX13_stepChild_22 rfl ?_
    refine r_geta 62 dX13_stepChild_23 fl_RX13_130 (by decide) rfl kk_62 ?_
    refine q_iload_n dX13_stepChild_26 rfl ?_
    refine q_iconst (v := 2) dX13_stepChild_27 (by decide) ?_
    obtain ⟨g28, hq⟩ := md_g hq
    refine r_iast hG hm 62 dX13_stepChild_28 kk_62 g28 (fun S28 e28 => ?_)
    have hq := md_l_e e28 hq
    clear e28
    show mv_rq l G mX13_stepChild (d + 1) 29 [some (.ref m), some (.int x1), some (.int v13)] [] (md_H G B m S28) _
    obtain rfl := Option.some.inj hq
    exact q_vret dX13_stepChild_29 rfl ⟨rfl, rfl⟩
