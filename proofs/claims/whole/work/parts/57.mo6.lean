theorem dX13_takeTruth_0 : decode cX13_takeTruth 0 = .ok (.aload_n 0, 1) := by decide +kernel
theorem dX13_takeTruth_1 : decode cX13_takeTruth 1 = .ok (.dup, 1) := by decide +kernel
theorem dX13_takeTruth_2 : decode cX13_takeTruth 2 = .ok (.getfield 440, 3) := by decide +kernel
theorem dX13_takeTruth_5 : decode cX13_takeTruth 5 = .ok (.iconst 1, 1) := by decide +kernel
theorem dX13_takeTruth_6 : decode cX13_takeTruth 6 = .ok (.isub, 1) := by decide +kernel
theorem dX13_takeTruth_7 : decode cX13_takeTruth 7 = .ok (.putfield 440, 3) := by decide +kernel
theorem dX13_takeTruth_10 : decode cX13_takeTruth 10 = .ok (.aload_n 0, 1) := by decide +kernel
theorem dX13_takeTruth_11 : decode cX13_takeTruth 11 = .ok (.getfield 172, 3) := by decide +kernel
theorem dX13_takeTruth_14 : decode cX13_takeTruth 14 = .ok (.aload_n 0, 1) := by decide +kernel
theorem dX13_takeTruth_15 : decode cX13_takeTruth 15 = .ok (.getfield 440, 3) := by decide +kernel
theorem dX13_takeTruth_18 : decode cX13_takeTruth 18 = .ok (.iaload, 1) := by decide +kernel
theorem dX13_takeTruth_19 : decode cX13_takeTruth 19 = .ok (.iconst 2, 1) := by decide +kernel
theorem dX13_takeTruth_20 : decode cX13_takeTruth 20 = .ok (.if_icmp .ne 7, 3) := by decide +kernel
theorem dX13_takeTruth_23 : decode cX13_takeTruth 23 = .ok (.iconst 1, 1) := by decide +kernel
theorem dX13_takeTruth_24 : decode cX13_takeTruth 24 = .ok (.goto 4, 3) := by decide +kernel
theorem dX13_takeTruth_27 : decode cX13_takeTruth 27 = .ok (.iconst 0, 1) := by decide +kernel
theorem dX13_takeTruth_28 : decode cX13_takeTruth 28 = .ok (.ireturn, 1) := by decide +kernel
theorem dX13_logic_0 : decode cX13_logic 0 = .ok (.aload_n 0, 1) := by decide +kernel
theorem dX13_logic_1 : decode cX13_logic 1 = .ok (.invokevirtual 456, 3) := by decide +kernel
theorem dX13_logic_4 : decode cX13_logic 4 = .ok (.istore_n 2, 1) := by decide +kernel
theorem dX13_logic_5 : decode cX13_logic 5 = .ok (.iload_n 1, 1) := by decide +kernel
theorem dX13_logic_6 : decode cX13_logic 6 = .ok (.bipush 8, 2) := by decide +kernel
theorem dX13_logic_8 : decode cX13_logic 8 = .ok (.if_icmp .ne 21, 3) := by decide +kernel
theorem dX13_logic_11 : decode cX13_logic 11 = .ok (.aload_n 0, 1) := by decide +kernel
theorem dX13_logic_12 : decode cX13_logic 12 = .ok (.iload_n 2, 1) := by decide +kernel
theorem dX13_logic_13 : decode cX13_logic 13 = .ok (.ifCond .eq 7, 3) := by decide +kernel
theorem dX13_logic_16 : decode cX13_logic 16 = .ok (.iconst 1, 1) := by decide +kernel
theorem dX13_logic_17 : decode cX13_logic 17 = .ok (.goto 4, 3) := by decide +kernel
theorem dX13_logic_20 : decode cX13_logic 20 = .ok (.iconst 2, 1) := by decide +kernel
theorem dX13_logic_21 : decode cX13_logic 21 = .ok (.iconst 0, 1) := by decide +kernel
theorem dX13_logic_22 : decode cX13_logic 22 = .ok (.iconst 0, 1) := by decide +kernel
theorem dX13_logic_23 : decode cX13_logic 23 = .ok (.invokevirtual 443, 3) := by decide +kernel
theorem dX13_logic_26 : decode cX13_logic 26 = .ok (.goto 61, 3) := by decide +kernel
theorem dX13_logic_29 : decode cX13_logic 29 = .ok (.aload_n 0, 1) := by decide +kernel
theorem dX13_logic_30 : decode cX13_logic 30 = .ok (.invokevirtual 456, 3) := by decide +kernel
theorem dX13_logic_33 : decode cX13_logic 33 = .ok (.istore_n 3, 1) := by decide +kernel
theorem dX13_logic_34 : decode cX13_logic 34 = .ok (.iload_n 1, 1) := by decide +kernel
theorem dX13_logic_35 : decode cX13_logic 35 = .ok (.bipush 9, 2) := by decide +kernel
theorem dX13_logic_37 : decode cX13_logic 37 = .ok (.if_icmp .ne 19, 3) := by decide +kernel
theorem dX13_logic_40 : decode cX13_logic 40 = .ok (.iload_n 3, 1) := by decide +kernel
theorem dX13_logic_41 : decode cX13_logic 41 = .ok (.ifCond .eq 11, 3) := by decide +kernel
theorem dX13_logic_44 : decode cX13_logic 44 = .ok (.iload_n 2, 1) := by decide +kernel
theorem dX13_logic_45 : decode cX13_logic 45 = .ok (.ifCond .eq 7, 3) := by decide +kernel
theorem dX13_logic_48 : decode cX13_logic 48 = .ok (.iconst 1, 1) := by decide +kernel
theorem dX13_logic_49 : decode cX13_logic 49 = .ok (.goto 20, 3) := by decide +kernel
theorem dX13_logic_52 : decode cX13_logic 52 = .ok (.iconst 0, 1) := by decide +kernel
theorem dX13_logic_53 : decode cX13_logic 53 = .ok (.goto 16, 3) := by decide +kernel
theorem dX13_logic_56 : decode cX13_logic 56 = .ok (.iload_n 3, 1) := by decide +kernel
theorem dX13_logic_57 : decode cX13_logic 57 = .ok (.ifCond .ne 7, 3) := by decide +kernel
theorem dX13_logic_60 : decode cX13_logic 60 = .ok (.iload_n 2, 1) := by decide +kernel
theorem dX13_logic_61 : decode cX13_logic 61 = .ok (.ifCond .eq 7, 3) := by decide +kernel
theorem dX13_logic_64 : decode cX13_logic 64 = .ok (.iconst 1, 1) := by decide +kernel
theorem dX13_logic_65 : decode cX13_logic 65 = .ok (.goto 4, 3) := by decide +kernel
theorem dX13_logic_68 : decode cX13_logic 68 = .ok (.iconst 0, 1) := by decide +kernel
theorem dX13_logic_69 : decode cX13_logic 69 = .ok (.istore 4, 2) := by decide +kernel
theorem dX13_logic_71 : decode cX13_logic 71 = .ok (.aload_n 0, 1) := by decide +kernel
theorem dX13_logic_72 : decode cX13_logic 72 = .ok (.iload 4, 2) := by decide +kernel
theorem dX13_logic_74 : decode cX13_logic 74 = .ok (.ifCond .eq 7, 3) := by decide +kernel
theorem dX13_logic_77 : decode cX13_logic 77 = .ok (.iconst 2, 1) := by decide +kernel
theorem dX13_logic_78 : decode cX13_logic 78 = .ok (.goto 4, 3) := by decide +kernel
theorem dX13_logic_81 : decode cX13_logic 81 = .ok (.iconst 1, 1) := by decide +kernel
theorem dX13_logic_82 : decode cX13_logic 82 = .ok (.iconst 0, 1) := by decide +kernel
theorem dX13_logic_83 : decode cX13_logic 83 = .ok (.iconst 0, 1) := by decide +kernel
theorem dX13_logic_84 : decode cX13_logic 84 = .ok (.invokevirtual 443, 3) := by decide +kernel
theorem dX13_logic_87 : decode cX13_logic 87 = .ok (.return_, 1) := by decide +kernel
theorem dX13_lengthOf_0 : decode cX13_lengthOf 0 = .ok (.aload_n 0, 1) := by decide +kernel
theorem dX13_lengthOf_1 : decode cX13_lengthOf 1 = .ok (.dup, 1) := by decide +kernel
theorem dX13_lengthOf_2 : decode cX13_lengthOf 2 = .ok (.getfield 440, 3) := by decide +kernel
theorem dX13_lengthOf_5 : decode cX13_lengthOf 5 = .ok (.iconst 1, 1) := by decide +kernel
theorem dX13_lengthOf_6 : decode cX13_lengthOf 6 = .ok (.isub, 1) := by decide +kernel
theorem dX13_lengthOf_7 : decode cX13_lengthOf 7 = .ok (.putfield 440, 3) := by decide +kernel
theorem dX13_lengthOf_10 : decode cX13_lengthOf 10 = .ok (.aload_n 0, 1) := by decide +kernel
theorem dX13_lengthOf_11 : decode cX13_lengthOf 11 = .ok (.getfield 172, 3) := by decide +kernel
theorem dX13_lengthOf_14 : decode cX13_lengthOf 14 = .ok (.aload_n 0, 1) := by decide +kernel
theorem dX13_lengthOf_15 : decode cX13_lengthOf 15 = .ok (.getfield 440, 3) := by decide +kernel
theorem dX13_lengthOf_18 : decode cX13_lengthOf 18 = .ok (.iaload, 1) := by decide +kernel
theorem dX13_lengthOf_19 : decode cX13_lengthOf 19 = .ok (.istore_n 1, 1) := by decide +kernel
theorem dX13_lengthOf_20 : decode cX13_lengthOf 20 = .ok (.iload_n 1, 1) := by decide +kernel
theorem dX13_lengthOf_21 : decode cX13_lengthOf 21 = .ok (.iconst 4, 1) := by decide +kernel
theorem dX13_lengthOf_22 : decode cX13_lengthOf 22 = .ok (.if_icmp .ne 21, 3) := by decide +kernel
theorem dX13_lengthOf_25 : decode cX13_lengthOf 25 = .ok (.aload_n 0, 1) := by decide +kernel
theorem dX13_lengthOf_26 : decode cX13_lengthOf 26 = .ok (.iconst 3, 1) := by decide +kernel
theorem dX13_lengthOf_27 : decode cX13_lengthOf 27 = .ok (.aload_n 0, 1) := by decide +kernel
theorem dX13_lengthOf_28 : decode cX13_lengthOf 28 = .ok (.getfield 178, 3) := by decide +kernel
theorem dX13_lengthOf_31 : decode cX13_lengthOf 31 = .ok (.aload_n 0, 1) := by decide +kernel
theorem dX13_lengthOf_32 : decode cX13_lengthOf 32 = .ok (.getfield 440, 3) := by decide +kernel
theorem dX13_lengthOf_35 : decode cX13_lengthOf 35 = .ok (.iaload, 1) := by decide +kernel
theorem dX13_lengthOf_36 : decode cX13_lengthOf 36 = .ok (.iconst 0, 1) := by decide +kernel
theorem dX13_lengthOf_37 : decode cX13_lengthOf 37 = .ok (.invokevirtual 443, 3) := by decide +kernel
theorem dX13_lengthOf_40 : decode cX13_lengthOf 40 = .ok (.goto 44, 3) := by decide +kernel
theorem dX13_lengthOf_43 : decode cX13_lengthOf 43 = .ok (.iload_n 1, 1) := by decide +kernel
theorem dX13_lengthOf_44 : decode cX13_lengthOf 44 = .ok (.iconst 5, 1) := by decide +kernel
theorem dX13_lengthOf_45 : decode cX13_lengthOf 45 = .ok (.if_icmp .eq 9, 3) := by decide +kernel
theorem dX13_lengthOf_48 : decode cX13_lengthOf 48 = .ok (.iload_n 1, 1) := by decide +kernel
theorem dX13_lengthOf_49 : decode cX13_lengthOf 49 = .ok (.bipush 6, 2) := by decide +kernel
theorem dX13_lengthOf_51 : decode cX13_lengthOf 51 = .ok (.if_icmp .ne 25, 3) := by decide +kernel
theorem dX13_lengthOf_54 : decode cX13_lengthOf 54 = .ok (.aload_n 0, 1) := by decide +kernel
theorem dX13_lengthOf_55 : decode cX13_lengthOf 55 = .ok (.iconst 3, 1) := by decide +kernel
theorem dX13_lengthOf_56 : decode cX13_lengthOf 56 = .ok (.aload_n 0, 1) := by decide +kernel
theorem dX13_lengthOf_57 : decode cX13_lengthOf 57 = .ok (.aload_n 0, 1) := by decide +kernel
theorem dX13_lengthOf_58 : decode cX13_lengthOf 58 = .ok (.getfield 175, 3) := by decide +kernel
theorem dX13_lengthOf_61 : decode cX13_lengthOf 61 = .ok (.aload_n 0, 1) := by decide +kernel
theorem dX13_lengthOf_62 : decode cX13_lengthOf 62 = .ok (.getfield 440, 3) := by decide +kernel
theorem dX13_lengthOf_65 : decode cX13_lengthOf 65 = .ok (.iaload, 1) := by decide +kernel
theorem dX13_lengthOf_66 : decode cX13_lengthOf 66 = .ok (.invokevirtual 428, 3) := by decide +kernel
theorem dX13_lengthOf_69 : decode cX13_lengthOf 69 = .ok (.iconst 0, 1) := by decide +kernel
theorem dX13_lengthOf_70 : decode cX13_lengthOf 70 = .ok (.invokevirtual 443, 3) := by decide +kernel
theorem dX13_lengthOf_73 : decode cX13_lengthOf 73 = .ok (.goto 11, 3) := by decide +kernel
theorem dX13_lengthOf_76 : decode cX13_lengthOf 76 = .ok (.aload_n 0, 1) := by decide +kernel
theorem dX13_lengthOf_77 : decode cX13_lengthOf 77 = .ok (.bipush 7, 2) := by decide +kernel
theorem dX13_lengthOf_79 : decode cX13_lengthOf 79 = .ok (.iconst 0, 1) := by decide +kernel
theorem dX13_lengthOf_80 : decode cX13_lengthOf 80 = .ok (.iconst 0, 1) := by decide +kernel
theorem dX13_lengthOf_81 : decode cX13_lengthOf 81 = .ok (.invokevirtual 443, 3) := by decide +kernel
theorem dX13_lengthOf_84 : decode cX13_lengthOf 84 = .ok (.return_, 1) := by decide +kernel
theorem dX13_letterOf_0 : decode cX13_letterOf 0 = .ok (.iload_n 1, 1) := by decide +kernel
theorem dX13_letterOf_1 : decode cX13_letterOf 1 = .ok (.sipush 1000, 3) := by decide +kernel
theorem dX13_letterOf_4 : decode cX13_letterOf 4 = .ok (.if_icmp .ge 14, 3) := by decide +kernel
theorem dX13_letterOf_7 : decode cX13_letterOf 7 = .ok (.aload_n 0, 1) := by decide +kernel
theorem dX13_letterOf_8 : decode cX13_letterOf 8 = .ok (.getfield 20, 3) := by decide +kernel
theorem dX13_letterOf_11 : decode cX13_letterOf 11 = .ok (.iload_n 1, 1) := by decide +kernel
theorem dX13_letterOf_12 : decode cX13_letterOf 12 = .ok (.iload_n 2, 1) := by decide +kernel
theorem dX13_letterOf_13 : decode cX13_letterOf 13 = .ok (.iadd, 1) := by decide +kernel
theorem dX13_letterOf_14 : decode cX13_letterOf 14 = .ok (.baload, 1) := by decide +kernel
theorem dX13_letterOf_15 : decode cX13_letterOf 15 = .ok (.goto 15, 3) := by decide +kernel
theorem dX13_letterOf_18 : decode cX13_letterOf 18 = .ok (.aload_n 0, 1) := by decide +kernel
theorem dX13_letterOf_19 : decode cX13_letterOf 19 = .ok (.getfield 51, 3) := by decide +kernel
theorem dX13_letterOf_22 : decode cX13_letterOf 22 = .ok (.iload_n 1, 1) := by decide +kernel
theorem dX13_letterOf_23 : decode cX13_letterOf 23 = .ok (.sipush 1000, 3) := by decide +kernel
theorem dX13_letterOf_26 : decode cX13_letterOf 26 = .ok (.isub, 1) := by decide +kernel
theorem dX13_letterOf_27 : decode cX13_letterOf 27 = .ok (.iload_n 2, 1) := by decide +kernel
theorem dX13_letterOf_28 : decode cX13_letterOf 28 = .ok (.iadd, 1) := by decide +kernel
theorem dX13_letterOf_29 : decode cX13_letterOf 29 = .ok (.baload, 1) := by decide +kernel
theorem dX13_letterOf_30 : decode cX13_letterOf 30 = .ok (.ireturn, 1) := by decide +kernel
theorem dX13_order_0 : decode cX13_order 0 = .ok (.iconst 0, 1) := by decide +kernel
theorem dX13_order_1 : decode cX13_order 1 = .ok (.istore 5, 2) := by decide +kernel
theorem dX13_order_3 : decode cX13_order 3 = .ok (.iload 5, 2) := by decide +kernel
theorem dX13_order_5 : decode cX13_order 5 = .ok (.iload_n 2, 1) := by decide +kernel
theorem dX13_order_6 : decode cX13_order 6 = .ok (.if_icmp .ge 41, 3) := by decide +kernel
theorem dX13_order_9 : decode cX13_order 9 = .ok (.iload 5, 2) := by decide +kernel
theorem dX13_order_11 : decode cX13_order 11 = .ok (.iload 4, 2) := by decide +kernel
theorem dX13_order_13 : decode cX13_order 13 = .ok (.if_icmp .ge 34, 3) := by decide +kernel
theorem dX13_order_16 : decode cX13_order 16 = .ok (.aload_n 0, 1) := by decide +kernel
theorem dX13_order_17 : decode cX13_order 17 = .ok (.iload_n 1, 1) := by decide +kernel
theorem dX13_order_18 : decode cX13_order 18 = .ok (.iload 5, 2) := by decide +kernel
theorem dX13_order_20 : decode cX13_order 20 = .ok (.invokevirtual 471, 3) := by decide +kernel
theorem dX13_order_23 : decode cX13_order 23 = .ok (.aload_n 0, 1) := by decide +kernel
theorem dX13_order_24 : decode cX13_order 24 = .ok (.iload_n 3, 1) := by decide +kernel
theorem dX13_order_25 : decode cX13_order 25 = .ok (.iload 5, 2) := by decide +kernel
theorem dX13_order_27 : decode cX13_order 27 = .ok (.invokevirtual 471, 3) := by decide +kernel
theorem dX13_order_30 : decode cX13_order 30 = .ok (.isub, 1) := by decide +kernel
theorem dX13_order_31 : decode cX13_order 31 = .ok (.istore 6, 2) := by decide +kernel
theorem dX13_order_33 : decode cX13_order 33 = .ok (.iload 6, 2) := by decide +kernel
theorem dX13_order_35 : decode cX13_order 35 = .ok (.ifCond .eq 6, 3) := by decide +kernel
theorem dX13_order_38 : decode cX13_order 38 = .ok (.iload 6, 2) := by decide +kernel
theorem dX13_order_40 : decode cX13_order 40 = .ok (.ireturn, 1) := by decide +kernel
theorem dX13_order_41 : decode cX13_order 41 = .ok (.iinc 5 1, 3) := by decide +kernel
theorem dX13_order_44 : decode cX13_order 44 = .ok (.goto (-41), 3) := by decide +kernel
theorem dX13_order_47 : decode cX13_order 47 = .ok (.iload_n 2, 1) := by decide +kernel
theorem dX13_order_48 : decode cX13_order 48 = .ok (.iload 4, 2) := by decide +kernel
theorem dX13_order_50 : decode cX13_order 50 = .ok (.isub, 1) := by decide +kernel
theorem dX13_order_51 : decode cX13_order 51 = .ok (.ireturn, 1) := by decide +kernel
theorem dX13_isLeafAlike_0 : decode cX13_isLeafAlike 0 = .ok (.aload_n 0, 1) := by decide +kernel
theorem dX13_isLeafAlike_1 : decode cX13_isLeafAlike 1 = .ok (.getfield 23, 3) := by decide +kernel
theorem dX13_isLeafAlike_4 : decode cX13_isLeafAlike 4 = .ok (.iload_n 1, 1) := by decide +kernel
theorem dX13_isLeafAlike_5 : decode cX13_isLeafAlike 5 = .ok (.iaload, 1) := by decide +kernel
theorem dX13_isLeafAlike_6 : decode cX13_isLeafAlike 6 = .ok (.aload_n 0, 1) := by decide +kernel
theorem dX13_isLeafAlike_7 : decode cX13_isLeafAlike 7 = .ok (.getfield 23, 3) := by decide +kernel
theorem dX13_isLeafAlike_10 : decode cX13_isLeafAlike 10 = .ok (.iload_n 2, 1) := by decide +kernel
theorem dX13_isLeafAlike_11 : decode cX13_isLeafAlike 11 = .ok (.iaload, 1) := by decide +kernel
theorem dX13_isLeafAlike_12 : decode cX13_isLeafAlike 12 = .ok (.if_icmp .eq 5, 3) := by decide +kernel
theorem dX13_isLeafAlike_15 : decode cX13_isLeafAlike 15 = .ok (.iconst 0, 1) := by decide +kernel
theorem dX13_isLeafAlike_16 : decode cX13_isLeafAlike 16 = .ok (.ireturn, 1) := by decide +kernel
theorem dX13_isLeafAlike_17 : decode cX13_isLeafAlike 17 = .ok (.aload_n 0, 1) := by decide +kernel
theorem dX13_isLeafAlike_18 : decode cX13_isLeafAlike 18 = .ok (.getfield 23, 3) := by decide +kernel
theorem dX13_isLeafAlike_21 : decode cX13_isLeafAlike 21 = .ok (.iload_n 1, 1) := by decide +kernel
theorem dX13_isLeafAlike_22 : decode cX13_isLeafAlike 22 = .ok (.iaload, 1) := by decide +kernel
theorem dX13_isLeafAlike_23 : decode cX13_isLeafAlike 23 = .ok (.iconst 3, 1) := by decide +kernel
theorem dX13_isLeafAlike_24 : decode cX13_isLeafAlike 24 = .ok (.if_icmp .ne 24, 3) := by decide +kernel
theorem dX13_isLeafAlike_27 : decode cX13_isLeafAlike 27 = .ok (.aload_n 0, 1) := by decide +kernel
theorem dX13_isLeafAlike_28 : decode cX13_isLeafAlike 28 = .ok (.getfield 39, 3) := by decide +kernel
theorem dX13_isLeafAlike_31 : decode cX13_isLeafAlike 31 = .ok (.iload_n 1, 1) := by decide +kernel
theorem dX13_isLeafAlike_32 : decode cX13_isLeafAlike 32 = .ok (.iaload, 1) := by decide +kernel
theorem dX13_isLeafAlike_33 : decode cX13_isLeafAlike 33 = .ok (.aload_n 0, 1) := by decide +kernel
theorem dX13_isLeafAlike_34 : decode cX13_isLeafAlike 34 = .ok (.getfield 39, 3) := by decide +kernel
theorem dX13_isLeafAlike_37 : decode cX13_isLeafAlike 37 = .ok (.iload_n 2, 1) := by decide +kernel
theorem dX13_isLeafAlike_38 : decode cX13_isLeafAlike 38 = .ok (.iaload, 1) := by decide +kernel
theorem dX13_isLeafAlike_39 : decode cX13_isLeafAlike 39 = .ok (.if_icmp .ne 7, 3) := by decide +kernel
theorem dX13_isLeafAlike_42 : decode cX13_isLeafAlike 42 = .ok (.iconst 1, 1) := by decide +kernel
theorem dX13_isLeafAlike_43 : decode cX13_isLeafAlike 43 = .ok (.goto 4, 3) := by decide +kernel
theorem dX13_isLeafAlike_46 : decode cX13_isLeafAlike 46 = .ok (.iconst 0, 1) := by decide +kernel
theorem dX13_isLeafAlike_47 : decode cX13_isLeafAlike 47 = .ok (.ireturn, 1) := by decide +kernel
theorem dX13_isLeafAlike_48 : decode cX13_isLeafAlike 48 = .ok (.aload_n 0, 1) := by decide +kernel
theorem dX13_isLeafAlike_49 : decode cX13_isLeafAlike 49 = .ok (.getfield 23, 3) := by decide +kernel
theorem dX13_isLeafAlike_52 : decode cX13_isLeafAlike 52 = .ok (.iload_n 1, 1) := by decide +kernel
theorem dX13_isLeafAlike_53 : decode cX13_isLeafAlike 53 = .ok (.iaload, 1) := by decide +kernel
theorem dX13_isLeafAlike_54 : decode cX13_isLeafAlike 54 = .ok (.iconst 4, 1) := by decide +kernel
theorem dX13_isLeafAlike_55 : decode cX13_isLeafAlike 55 = .ok (.if_icmp .ne 38, 3) := by decide +kernel
theorem dX13_isLeafAlike_58 : decode cX13_isLeafAlike 58 = .ok (.aload_n 0, 1) := by decide +kernel
theorem dX13_isLeafAlike_59 : decode cX13_isLeafAlike 59 = .ok (.aload_n 0, 1) := by decide +kernel
theorem dX13_isLeafAlike_60 : decode cX13_isLeafAlike 60 = .ok (.getfield 33, 3) := by decide +kernel
theorem dX13_isLeafAlike_63 : decode cX13_isLeafAlike 63 = .ok (.iload_n 1, 1) := by decide +kernel
theorem dX13_isLeafAlike_64 : decode cX13_isLeafAlike 64 = .ok (.iaload, 1) := by decide +kernel
theorem dX13_isLeafAlike_65 : decode cX13_isLeafAlike 65 = .ok (.iconst 1, 1) := by decide +kernel
theorem dX13_isLeafAlike_66 : decode cX13_isLeafAlike 66 = .ok (.iadd, 1) := by decide +kernel
theorem dX13_isLeafAlike_67 : decode cX13_isLeafAlike 67 = .ok (.aload_n 0, 1) := by decide +kernel
theorem dX13_isLeafAlike_68 : decode cX13_isLeafAlike 68 = .ok (.getfield 39, 3) := by decide +kernel
theorem dX13_isLeafAlike_71 : decode cX13_isLeafAlike 71 = .ok (.iload_n 1, 1) := by decide +kernel
theorem dX13_isLeafAlike_72 : decode cX13_isLeafAlike 72 = .ok (.iaload, 1) := by decide +kernel
theorem dX13_isLeafAlike_73 : decode cX13_isLeafAlike 73 = .ok (.aload_n 0, 1) := by decide +kernel
theorem dX13_isLeafAlike_74 : decode cX13_isLeafAlike 74 = .ok (.getfield 33, 3) := by decide +kernel
theorem dX13_isLeafAlike_77 : decode cX13_isLeafAlike 77 = .ok (.iload_n 2, 1) := by decide +kernel
theorem dX13_isLeafAlike_78 : decode cX13_isLeafAlike 78 = .ok (.iaload, 1) := by decide +kernel
theorem dX13_isLeafAlike_79 : decode cX13_isLeafAlike 79 = .ok (.iconst 1, 1) := by decide +kernel
theorem dX13_isLeafAlike_80 : decode cX13_isLeafAlike 80 = .ok (.iadd, 1) := by decide +kernel
theorem dX13_isLeafAlike_81 : decode cX13_isLeafAlike 81 = .ok (.aload_n 0, 1) := by decide +kernel
theorem dX13_isLeafAlike_82 : decode cX13_isLeafAlike 82 = .ok (.getfield 39, 3) := by decide +kernel
theorem dX13_isLeafAlike_85 : decode cX13_isLeafAlike 85 = .ok (.iload_n 2, 1) := by decide +kernel
theorem dX13_isLeafAlike_86 : decode cX13_isLeafAlike 86 = .ok (.iaload, 1) := by decide +kernel
theorem dX13_isLeafAlike_87 : decode cX13_isLeafAlike 87 = .ok (.invokevirtual 474, 3) := by decide +kernel
theorem dX13_isLeafAlike_90 : decode cX13_isLeafAlike 90 = .ok (.ifCond .ne 7, 3) := by decide +kernel
theorem dX13_isLeafAlike_93 : decode cX13_isLeafAlike 93 = .ok (.iconst 1, 1) := by decide +kernel
theorem dX13_isLeafAlike_94 : decode cX13_isLeafAlike 94 = .ok (.goto 4, 3) := by decide +kernel
theorem dX13_isLeafAlike_97 : decode cX13_isLeafAlike 97 = .ok (.iconst 0, 1) := by decide +kernel
theorem dX13_isLeafAlike_98 : decode cX13_isLeafAlike 98 = .ok (.ireturn, 1) := by decide +kernel
theorem dX13_answer_0 : decode cX13_answer 0 = .ok (.aload_n 0, 1) := by decide +kernel
theorem dX13_answer_1 : decode cX13_answer 1 = .ok (.getfield 23, 3) := by decide +kernel
theorem dX13_answer_4 : decode cX13_answer 4 = .ok (.iload_n 1, 1) := by decide +kernel
theorem dX13_answer_5 : decode cX13_answer 5 = .ok (.iaload, 1) := by decide +kernel
theorem dX13_answer_6 : decode cX13_answer 6 = .ok (.iconst 5, 1) := by decide +kernel
theorem dX13_answer_7 : decode cX13_answer 7 = .ok (.if_icmp .ne 11, 3) := by decide +kernel
theorem dX13_answer_10 : decode cX13_answer 10 = .ok (.aload_n 0, 1) := by decide +kernel
theorem dX13_answer_11 : decode cX13_answer 11 = .ok (.iload 4, 2) := by decide +kernel
theorem dX13_answer_13 : decode cX13_answer 13 = .ok (.iload_n 3, 1) := by decide +kernel
theorem dX13_answer_14 : decode cX13_answer 14 = .ok (.invokevirtual 422, 3) := by decide +kernel
theorem dX13_answer_17 : decode cX13_answer 17 = .ok (.ireturn, 1) := by decide +kernel
theorem dX13_answer_18 : decode cX13_answer 18 = .ok (.aload_n 0, 1) := by decide +kernel
theorem dX13_answer_19 : decode cX13_answer 19 = .ok (.iload 4, 2) := by decide +kernel
theorem dX13_answer_21 : decode cX13_answer 21 = .ok (.iload 4, 2) := by decide +kernel
theorem dX13_answer_23 : decode cX13_answer 23 = .ok (.invokevirtual 415, 3) := by decide +kernel
theorem dX13_answer_26 : decode cX13_answer 26 = .ok (.istore 5, 2) := by decide +kernel
theorem dX13_answer_28 : decode cX13_answer 28 = .ok (.iload 5, 2) := by decide +kernel
theorem dX13_answer_30 : decode cX13_answer 30 = .ok (.iconst (-1), 1) := by decide +kernel
theorem dX13_answer_31 : decode cX13_answer 31 = .ok (.if_icmp .eq 60, 3) := by decide +kernel
theorem dX13_answer_34 : decode cX13_answer 34 = .ok (.aload_n 0, 1) := by decide +kernel
theorem dX13_answer_35 : decode cX13_answer 35 = .ok (.aload_n 0, 1) := by decide +kernel
theorem dX13_answer_36 : decode cX13_answer 36 = .ok (.getfield 20, 3) := by decide +kernel
theorem dX13_answer_39 : decode cX13_answer 39 = .ok (.aload_n 0, 1) := by decide +kernel
theorem dX13_answer_40 : decode cX13_answer 40 = .ok (.getfield 42, 3) := by decide +kernel
theorem dX13_answer_43 : decode cX13_answer 43 = .ok (.iload_n 2, 1) := by decide +kernel
theorem dX13_answer_44 : decode cX13_answer 44 = .ok (.iaload, 1) := by decide +kernel
theorem dX13_answer_45 : decode cX13_answer 45 = .ok (.aload_n 0, 1) := by decide +kernel
theorem dX13_answer_46 : decode cX13_answer 46 = .ok (.getfield 45, 3) := by decide +kernel
theorem dX13_answer_49 : decode cX13_answer 49 = .ok (.iload_n 2, 1) := by decide +kernel
theorem dX13_answer_50 : decode cX13_answer 50 = .ok (.iaload, 1) := by decide +kernel
theorem dX13_answer_51 : decode cX13_answer 51 = .ok (.aload_n 0, 1) := by decide +kernel
theorem dX13_answer_52 : decode cX13_answer 52 = .ok (.getfield 20, 3) := by decide +kernel
theorem dX13_answer_55 : decode cX13_answer 55 = .ok (.aload_n 0, 1) := by decide +kernel
theorem dX13_answer_56 : decode cX13_answer 56 = .ok (.getfield 42, 3) := by decide +kernel
theorem dX13_answer_59 : decode cX13_answer 59 = .ok (.iload 5, 2) := by decide +kernel
theorem dX13_answer_61 : decode cX13_answer 61 = .ok (.iaload, 1) := by decide +kernel
theorem dX13_answer_62 : decode cX13_answer 62 = .ok (.aload_n 0, 1) := by decide +kernel
theorem dX13_answer_63 : decode cX13_answer 63 = .ok (.getfield 45, 3) := by decide +kernel
theorem dX13_answer_66 : decode cX13_answer 66 = .ok (.iload 5, 2) := by decide +kernel
theorem dX13_answer_68 : decode cX13_answer 68 = .ok (.iaload, 1) := by decide +kernel
theorem dX13_answer_69 : decode cX13_answer 69 = .ok (.invokevirtual 271, 3) := by decide +kernel
theorem dX13_answer_72 : decode cX13_answer 72 = .ok (.ifCond .eq 6, 3) := by decide +kernel
theorem dX13_answer_75 : decode cX13_answer 75 = .ok (.iload 5, 2) := by decide +kernel
theorem dX13_answer_77 : decode cX13_answer 77 = .ok (.ireturn, 1) := by decide +kernel
theorem dX13_answer_78 : decode cX13_answer 78 = .ok (.aload_n 0, 1) := by decide +kernel
theorem dX13_answer_79 : decode cX13_answer 79 = .ok (.iload 4, 2) := by decide +kernel
theorem dX13_answer_81 : decode cX13_answer 81 = .ok (.iload 5, 2) := by decide +kernel
theorem dX13_answer_83 : decode cX13_answer 83 = .ok (.invokevirtual 415, 3) := by decide +kernel
theorem dX13_answer_86 : decode cX13_answer 86 = .ok (.istore 5, 2) := by decide +kernel
theorem dX13_answer_88 : decode cX13_answer 88 = .ok (.goto (-60), 3) := by decide +kernel
theorem dX13_answer_91 : decode cX13_answer 91 = .ok (.iconst (-1), 1) := by decide +kernel
theorem dX13_answer_92 : decode cX13_answer 92 = .ok (.ireturn, 1) := by decide +kernel
theorem dX13_isAlike_0 : decode cX13_isAlike 0 = .ok (.iconst 1, 1) := by decide +kernel
theorem dX13_isAlike_1 : decode cX13_isAlike 1 = .ok (.istore_n 3, 1) := by decide +kernel
theorem dX13_isAlike_2 : decode cX13_isAlike 2 = .ok (.iconst 1, 1) := by decide +kernel
theorem dX13_isAlike_3 : decode cX13_isAlike 3 = .ok (.istore 4, 2) := by decide +kernel
theorem dX13_isAlike_5 : decode cX13_isAlike 5 = .ok (.aload_n 0, 1) := by decide +kernel
theorem dX13_isAlike_6 : decode cX13_isAlike 6 = .ok (.getfield 181, 3) := by decide +kernel
theorem dX13_isAlike_9 : decode cX13_isAlike 9 = .ok (.iconst 0, 1) := by decide +kernel
theorem dX13_isAlike_10 : decode cX13_isAlike 10 = .ok (.iload_n 1, 1) := by decide +kernel
theorem dX13_isAlike_11 : decode cX13_isAlike 11 = .ok (.iastore, 1) := by decide +kernel
theorem dX13_isAlike_12 : decode cX13_isAlike 12 = .ok (.aload_n 0, 1) := by decide +kernel
theorem dX13_isAlike_13 : decode cX13_isAlike 13 = .ok (.getfield 184, 3) := by decide +kernel
theorem dX13_isAlike_16 : decode cX13_isAlike 16 = .ok (.iconst 0, 1) := by decide +kernel
theorem dX13_isAlike_17 : decode cX13_isAlike 17 = .ok (.iload_n 2, 1) := by decide +kernel
theorem dX13_isAlike_18 : decode cX13_isAlike 18 = .ok (.iastore, 1) := by decide +kernel
theorem dX13_isAlike_19 : decode cX13_isAlike 19 = .ok (.iload_n 3, 1) := by decide +kernel
theorem dX13_isAlike_20 : decode cX13_isAlike 20 = .ok (.ifCond .le 169, 3) := by decide +kernel
theorem dX13_isAlike_23 : decode cX13_isAlike 23 = .ok (.iload 4, 2) := by decide +kernel
theorem dX13_isAlike_25 : decode cX13_isAlike 25 = .ok (.ifCond .eq 164, 3) := by decide +kernel
theorem dX13_isAlike_28 : decode cX13_isAlike 28 = .ok (.iinc 3 (-1), 3) := by decide +kernel
theorem dX13_isAlike_31 : decode cX13_isAlike 31 = .ok (.aload_n 0, 1) := by decide +kernel
theorem dX13_isAlike_32 : decode cX13_isAlike 32 = .ok (.getfield 181, 3) := by decide +kernel
theorem dX13_isAlike_35 : decode cX13_isAlike 35 = .ok (.iload_n 3, 1) := by decide +kernel
theorem dX13_isAlike_36 : decode cX13_isAlike 36 = .ok (.iaload, 1) := by decide +kernel
theorem dX13_isAlike_37 : decode cX13_isAlike 37 = .ok (.istore 5, 2) := by decide +kernel
theorem dX13_isAlike_39 : decode cX13_isAlike 39 = .ok (.aload_n 0, 1) := by decide +kernel
theorem dX13_isAlike_40 : decode cX13_isAlike 40 = .ok (.getfield 184, 3) := by decide +kernel
theorem dX13_isAlike_43 : decode cX13_isAlike 43 = .ok (.iload_n 3, 1) := by decide +kernel
theorem dX13_isAlike_44 : decode cX13_isAlike 44 = .ok (.iaload, 1) := by decide +kernel
theorem dX13_isAlike_45 : decode cX13_isAlike 45 = .ok (.istore 6, 2) := by decide +kernel
theorem dX13_isAlike_47 : decode cX13_isAlike 47 = .ok (.aload_n 0, 1) := by decide +kernel
theorem dX13_isAlike_48 : decode cX13_isAlike 48 = .ok (.iload 5, 2) := by decide +kernel
theorem dX13_isAlike_50 : decode cX13_isAlike 50 = .ok (.iload 6, 2) := by decide +kernel
theorem dX13_isAlike_52 : decode cX13_isAlike 52 = .ok (.invokevirtual 478, 3) := by decide +kernel
theorem dX13_isAlike_55 : decode cX13_isAlike 55 = .ok (.ifCond .eq 22, 3) := by decide +kernel
theorem dX13_isAlike_58 : decode cX13_isAlike 58 = .ok (.aload_n 0, 1) := by decide +kernel
theorem dX13_isAlike_59 : decode cX13_isAlike 59 = .ok (.iload 5, 2) := by decide +kernel
theorem dX13_isAlike_61 : decode cX13_isAlike 61 = .ok (.invokevirtual 428, 3) := by decide +kernel
theorem dX13_isAlike_64 : decode cX13_isAlike 64 = .ok (.aload_n 0, 1) := by decide +kernel
theorem dX13_isAlike_65 : decode cX13_isAlike 65 = .ok (.iload 6, 2) := by decide +kernel
theorem dX13_isAlike_67 : decode cX13_isAlike 67 = .ok (.invokevirtual 428, 3) := by decide +kernel
theorem dX13_isAlike_70 : decode cX13_isAlike 70 = .ok (.if_icmp .ne 7, 3) := by decide +kernel
theorem dX13_isAlike_73 : decode cX13_isAlike 73 = .ok (.iconst 1, 1) := by decide +kernel
theorem dX13_isAlike_74 : decode cX13_isAlike 74 = .ok (.goto 4, 3) := by decide +kernel
theorem dX13_isAlike_77 : decode cX13_isAlike 77 = .ok (.iconst 0, 1) := by decide +kernel
theorem dX13_isAlike_78 : decode cX13_isAlike 78 = .ok (.istore 4, 2) := by decide +kernel
theorem dX13_isAlike_80 : decode cX13_isAlike 80 = .ok (.iconst 0, 1) := by decide +kernel
theorem dX13_isAlike_81 : decode cX13_isAlike 81 = .ok (.istore 7, 2) := by decide +kernel
theorem dX13_isAlike_83 : decode cX13_isAlike 83 = .ok (.iload 4, 2) := by decide +kernel
theorem dX13_isAlike_85 : decode cX13_isAlike 85 = .ok (.ifCond .eq 14, 3) := by decide +kernel
theorem dX13_isAlike_88 : decode cX13_isAlike 88 = .ok (.aload_n 0, 1) := by decide +kernel
theorem dX13_isAlike_89 : decode cX13_isAlike 89 = .ok (.iload 5, 2) := by decide +kernel
theorem dX13_isAlike_91 : decode cX13_isAlike 91 = .ok (.iload 5, 2) := by decide +kernel
theorem dX13_isAlike_93 : decode cX13_isAlike 93 = .ok (.invokevirtual 415, 3) := by decide +kernel
theorem dX13_isAlike_96 : decode cX13_isAlike 96 = .ok (.goto 4, 3) := by decide +kernel
theorem dX13_isAlike_99 : decode cX13_isAlike 99 = .ok (.iconst (-1), 1) := by decide +kernel
theorem dX13_isAlike_100 : decode cX13_isAlike 100 = .ok (.istore 8, 2) := by decide +kernel
theorem dX13_isAlike_102 : decode cX13_isAlike 102 = .ok (.iload 8, 2) := by decide +kernel
theorem dX13_isAlike_104 : decode cX13_isAlike 104 = .ok (.iconst (-1), 1) := by decide +kernel
theorem dX13_isAlike_105 : decode cX13_isAlike 105 = .ok (.if_icmp .eq 81, 3) := by decide +kernel
theorem dX13_isAlike_108 : decode cX13_isAlike 108 = .ok (.aload_n 0, 1) := by decide +kernel
theorem dX13_isAlike_109 : decode cX13_isAlike 109 = .ok (.iload 5, 2) := by decide +kernel
theorem dX13_isAlike_111 : decode cX13_isAlike 111 = .ok (.iload 8, 2) := by decide +kernel
theorem dX13_isAlike_113 : decode cX13_isAlike 113 = .ok (.iload 7, 2) := by decide +kernel
theorem dX13_isAlike_115 : decode cX13_isAlike 115 = .ok (.iload 6, 2) := by decide +kernel
theorem dX13_isAlike_117 : decode cX13_isAlike 117 = .ok (.invokevirtual 482, 3) := by decide +kernel
theorem dX13_isAlike_120 : decode cX13_isAlike 120 = .ok (.istore 9, 2) := by decide +kernel
theorem dX13_isAlike_122 : decode cX13_isAlike 122 = .ok (.iload 4, 2) := by decide +kernel
theorem dX13_isAlike_124 : decode cX13_isAlike 124 = .ok (.ifCond .eq 13, 3) := by decide +kernel
theorem dX13_isAlike_127 : decode cX13_isAlike 127 = .ok (.iload 9, 2) := by decide +kernel
theorem dX13_isAlike_129 : decode cX13_isAlike 129 = .ok (.iconst (-1), 1) := by decide +kernel
theorem dX13_isAlike_130 : decode cX13_isAlike 130 = .ok (.if_icmp .eq 7, 3) := by decide +kernel
theorem dX13_isAlike_133 : decode cX13_isAlike 133 = .ok (.iconst 1, 1) := by decide +kernel
theorem dX13_isAlike_134 : decode cX13_isAlike 134 = .ok (.goto 4, 3) := by decide +kernel
theorem dX13_isAlike_137 : decode cX13_isAlike 137 = .ok (.iconst 0, 1) := by decide +kernel
theorem dX13_isAlike_138 : decode cX13_isAlike 138 = .ok (.istore 4, 2) := by decide +kernel
theorem dX13_isAlike_140 : decode cX13_isAlike 140 = .ok (.aload_n 0, 1) := by decide +kernel
theorem dX13_isAlike_141 : decode cX13_isAlike 141 = .ok (.getfield 181, 3) := by decide +kernel
theorem dX13_isAlike_144 : decode cX13_isAlike 144 = .ok (.iload_n 3, 1) := by decide +kernel
theorem dX13_isAlike_145 : decode cX13_isAlike 145 = .ok (.iload 8, 2) := by decide +kernel
theorem dX13_isAlike_147 : decode cX13_isAlike 147 = .ok (.iastore, 1) := by decide +kernel
theorem dX13_isAlike_148 : decode cX13_isAlike 148 = .ok (.aload_n 0, 1) := by decide +kernel
theorem dX13_isAlike_149 : decode cX13_isAlike 149 = .ok (.getfield 184, 3) := by decide +kernel
theorem dX13_isAlike_152 : decode cX13_isAlike 152 = .ok (.iload_n 3, 1) := by decide +kernel
theorem dX13_isAlike_153 : decode cX13_isAlike 153 = .ok (.iload 9, 2) := by decide +kernel
theorem dX13_isAlike_155 : decode cX13_isAlike 155 = .ok (.iconst (-1), 1) := by decide +kernel
theorem dX13_isAlike_156 : decode cX13_isAlike 156 = .ok (.if_icmp .ne 8, 3) := by decide +kernel
theorem dX13_isAlike_159 : decode cX13_isAlike 159 = .ok (.iload 8, 2) := by decide +kernel
theorem dX13_isAlike_161 : decode cX13_isAlike 161 = .ok (.goto 5, 3) := by decide +kernel
theorem dX13_isAlike_164 : decode cX13_isAlike 164 = .ok (.iload 9, 2) := by decide +kernel
theorem dX13_isAlike_166 : decode cX13_isAlike 166 = .ok (.iastore, 1) := by decide +kernel
theorem dX13_isAlike_167 : decode cX13_isAlike 167 = .ok (.iinc 3 1, 3) := by decide +kernel
theorem dX13_isAlike_170 : decode cX13_isAlike 170 = .ok (.iinc 7 1, 3) := by decide +kernel
theorem dX13_isAlike_173 : decode cX13_isAlike 173 = .ok (.aload_n 0, 1) := by decide +kernel
theorem dX13_isAlike_174 : decode cX13_isAlike 174 = .ok (.iload 5, 2) := by decide +kernel
theorem dX13_isAlike_176 : decode cX13_isAlike 176 = .ok (.iload 8, 2) := by decide +kernel
theorem dX13_isAlike_178 : decode cX13_isAlike 178 = .ok (.invokevirtual 415, 3) := by decide +kernel
theorem dX13_isAlike_181 : decode cX13_isAlike 181 = .ok (.istore 8, 2) := by decide +kernel
theorem dX13_isAlike_183 : decode cX13_isAlike 183 = .ok (.goto (-81), 3) := by decide +kernel
theorem dX13_isAlike_186 : decode cX13_isAlike 186 = .ok (.goto (-167), 3) := by decide +kernel
theorem dX13_isAlike_189 : decode cX13_isAlike 189 = .ok (.iload 4, 2) := by decide +kernel
theorem dX13_isAlike_191 : decode cX13_isAlike 191 = .ok (.ireturn, 1) := by decide +kernel
theorem dX13_isEqual_0 : decode cX13_isEqual 0 = .ok (.aload_n 0, 1) := by decide +kernel
theorem dX13_isEqual_1 : decode cX13_isEqual 1 = .ok (.getfield 172, 3) := by decide +kernel
theorem dX13_isEqual_4 : decode cX13_isEqual 4 = .ok (.iload_n 1, 1) := by decide +kernel
theorem dX13_isEqual_5 : decode cX13_isEqual 5 = .ok (.iaload, 1) := by decide +kernel
theorem dX13_isEqual_6 : decode cX13_isEqual 6 = .ok (.istore_n 3, 1) := by decide +kernel
theorem dX13_isEqual_7 : decode cX13_isEqual 7 = .ok (.iload_n 3, 1) := by decide +kernel
theorem dX13_isEqual_8 : decode cX13_isEqual 8 = .ok (.aload_n 0, 1) := by decide +kernel
theorem dX13_isEqual_9 : decode cX13_isEqual 9 = .ok (.getfield 172, 3) := by decide +kernel
theorem dX13_isEqual_12 : decode cX13_isEqual 12 = .ok (.iload_n 2, 1) := by decide +kernel
theorem dX13_isEqual_13 : decode cX13_isEqual 13 = .ok (.iaload, 1) := by decide +kernel
theorem dX13_isEqual_14 : decode cX13_isEqual 14 = .ok (.if_icmp .eq 5, 3) := by decide +kernel
theorem dX13_isEqual_17 : decode cX13_isEqual 17 = .ok (.iconst 0, 1) := by decide +kernel
theorem dX13_isEqual_18 : decode cX13_isEqual 18 = .ok (.ireturn, 1) := by decide +kernel
theorem dX13_isEqual_19 : decode cX13_isEqual 19 = .ok (.iload_n 3, 1) := by decide +kernel
theorem dX13_isEqual_20 : decode cX13_isEqual 20 = .ok (.iconst 3, 1) := by decide +kernel
theorem dX13_isEqual_21 : decode cX13_isEqual 21 = .ok (.if_icmp .ne 24, 3) := by decide +kernel
theorem dX13_isEqual_24 : decode cX13_isEqual 24 = .ok (.aload_n 0, 1) := by decide +kernel
theorem dX13_isEqual_25 : decode cX13_isEqual 25 = .ok (.getfield 175, 3) := by decide +kernel
theorem dX13_isEqual_28 : decode cX13_isEqual 28 = .ok (.iload_n 1, 1) := by decide +kernel
theorem dX13_isEqual_29 : decode cX13_isEqual 29 = .ok (.iaload, 1) := by decide +kernel
theorem dX13_isEqual_30 : decode cX13_isEqual 30 = .ok (.aload_n 0, 1) := by decide +kernel
theorem dX13_isEqual_31 : decode cX13_isEqual 31 = .ok (.getfield 175, 3) := by decide +kernel
theorem dX13_isEqual_34 : decode cX13_isEqual 34 = .ok (.iload_n 2, 1) := by decide +kernel
theorem dX13_isEqual_35 : decode cX13_isEqual 35 = .ok (.iaload, 1) := by decide +kernel
theorem dX13_isEqual_36 : decode cX13_isEqual 36 = .ok (.if_icmp .ne 7, 3) := by decide +kernel
theorem dX13_isEqual_39 : decode cX13_isEqual 39 = .ok (.iconst 1, 1) := by decide +kernel
theorem dX13_isEqual_40 : decode cX13_isEqual 40 = .ok (.goto 4, 3) := by decide +kernel
theorem dX13_isEqual_43 : decode cX13_isEqual 43 = .ok (.iconst 0, 1) := by decide +kernel
theorem dX13_isEqual_44 : decode cX13_isEqual 44 = .ok (.ireturn, 1) := by decide +kernel
theorem dX13_isEqual_45 : decode cX13_isEqual 45 = .ok (.iload_n 3, 1) := by decide +kernel
theorem dX13_isEqual_46 : decode cX13_isEqual 46 = .ok (.iconst 4, 1) := by decide +kernel
theorem dX13_isEqual_47 : decode cX13_isEqual 47 = .ok (.if_icmp .ne 40, 3) := by decide +kernel
theorem dX13_isEqual_50 : decode cX13_isEqual 50 = .ok (.aload_n 0, 1) := by decide +kernel
theorem dX13_isEqual_51 : decode cX13_isEqual 51 = .ok (.aload_n 0, 1) := by decide +kernel
theorem dX13_isEqual_52 : decode cX13_isEqual 52 = .ok (.getfield 175, 3) := by decide +kernel
theorem dX13_isEqual_55 : decode cX13_isEqual 55 = .ok (.iload_n 1, 1) := by decide +kernel
theorem dX13_isEqual_56 : decode cX13_isEqual 56 = .ok (.iaload, 1) := by decide +kernel
theorem dX13_isEqual_57 : decode cX13_isEqual 57 = .ok (.aload_n 0, 1) := by decide +kernel
theorem dX13_isEqual_58 : decode cX13_isEqual 58 = .ok (.getfield 178, 3) := by decide +kernel
theorem dX13_isEqual_61 : decode cX13_isEqual 61 = .ok (.iload_n 1, 1) := by decide +kernel
theorem dX13_isEqual_62 : decode cX13_isEqual 62 = .ok (.iaload, 1) := by decide +kernel
theorem dX13_isEqual_63 : decode cX13_isEqual 63 = .ok (.aload_n 0, 1) := by decide +kernel
theorem dX13_isEqual_64 : decode cX13_isEqual 64 = .ok (.getfield 175, 3) := by decide +kernel
theorem dX13_isEqual_67 : decode cX13_isEqual 67 = .ok (.iload_n 2, 1) := by decide +kernel
theorem dX13_isEqual_68 : decode cX13_isEqual 68 = .ok (.iaload, 1) := by decide +kernel
theorem dX13_isEqual_69 : decode cX13_isEqual 69 = .ok (.aload_n 0, 1) := by decide +kernel
theorem dX13_isEqual_70 : decode cX13_isEqual 70 = .ok (.getfield 178, 3) := by decide +kernel
theorem dX13_isEqual_73 : decode cX13_isEqual 73 = .ok (.iload_n 2, 1) := by decide +kernel
theorem dX13_isEqual_74 : decode cX13_isEqual 74 = .ok (.iaload, 1) := by decide +kernel
theorem dX13_isEqual_75 : decode cX13_isEqual 75 = .ok (.invokevirtual 474, 3) := by decide +kernel
theorem dX13_isEqual_78 : decode cX13_isEqual 78 = .ok (.ifCond .ne 7, 3) := by decide +kernel
theorem dX13_isEqual_81 : decode cX13_isEqual 81 = .ok (.iconst 1, 1) := by decide +kernel
theorem dX13_isEqual_82 : decode cX13_isEqual 82 = .ok (.goto 4, 3) := by decide +kernel
theorem dX13_isEqual_85 : decode cX13_isEqual 85 = .ok (.iconst 0, 1) := by decide +kernel
theorem dX13_isEqual_86 : decode cX13_isEqual 86 = .ok (.ireturn, 1) := by decide +kernel
theorem dX13_isEqual_87 : decode cX13_isEqual 87 = .ok (.iload_n 3, 1) := by decide +kernel
theorem dX13_isEqual_88 : decode cX13_isEqual 88 = .ok (.iconst 5, 1) := by decide +kernel
theorem dX13_isEqual_89 : decode cX13_isEqual 89 = .ok (.if_icmp .eq 9, 3) := by decide +kernel
theorem dX13_isEqual_92 : decode cX13_isEqual 92 = .ok (.iload_n 3, 1) := by decide +kernel
theorem dX13_isEqual_93 : decode cX13_isEqual 93 = .ok (.bipush 6, 2) := by decide +kernel
theorem dX13_isEqual_95 : decode cX13_isEqual 95 = .ok (.if_icmp .ne 22, 3) := by decide +kernel
theorem dX13_isEqual_98 : decode cX13_isEqual 98 = .ok (.aload_n 0, 1) := by decide +kernel
theorem dX13_isEqual_99 : decode cX13_isEqual 99 = .ok (.aload_n 0, 1) := by decide +kernel
theorem dX13_isEqual_100 : decode cX13_isEqual 100 = .ok (.getfield 175, 3) := by decide +kernel
theorem dX13_isEqual_103 : decode cX13_isEqual 103 = .ok (.iload_n 1, 1) := by decide +kernel
theorem dX13_isEqual_104 : decode cX13_isEqual 104 = .ok (.iaload, 1) := by decide +kernel
theorem dX13_isEqual_105 : decode cX13_isEqual 105 = .ok (.aload_n 0, 1) := by decide +kernel
theorem dX13_isEqual_106 : decode cX13_isEqual 106 = .ok (.getfield 175, 3) := by decide +kernel
theorem dX13_isEqual_109 : decode cX13_isEqual 109 = .ok (.iload_n 2, 1) := by decide +kernel
theorem dX13_isEqual_110 : decode cX13_isEqual 110 = .ok (.iaload, 1) := by decide +kernel
theorem dX13_isEqual_111 : decode cX13_isEqual 111 = .ok (.invokevirtual 485, 3) := by decide +kernel
theorem dX13_isEqual_114 : decode cX13_isEqual 114 = .ok (.ifCond .eq 7, 3) := by decide +kernel
theorem dX13_isEqual_117 : decode cX13_isEqual 117 = .ok (.iconst 1, 1) := by decide +kernel
theorem dX13_isEqual_118 : decode cX13_isEqual 118 = .ok (.goto 4, 3) := by decide +kernel
theorem dX13_isEqual_121 : decode cX13_isEqual 121 = .ok (.iconst 0, 1) := by decide +kernel
theorem dX13_isEqual_122 : decode cX13_isEqual 122 = .ok (.ireturn, 1) := by decide +kernel
def mo_takeTruth_j28 (y0 : Int32) (S : md_S) : Option (Int32 × md_S) :=
  if md_bo y0 then
  some (y0, S)
  else none
theorem ro_takeTruth_j28 {l : Launch} {G : mv_G} {B : mv_H} {m d : Nat} (hG : mv_ok G) (hm : G.2.2.1 ≤ m) {y0 : Int32} {S : md_S} {q : (Int32 × md_S)} (hq : mo_takeTruth_j28 y0 S = some q) : mv_rq l G mX13_takeTruth d 28 [none] [.int y0] (md_H G B m S) (md_Q G B m q) := by
  unfold mo_takeTruth_j28 at hq
  obtain ⟨g28, hq⟩ := md_g hq
  obtain rfl := Option.some.inj hq
  exact q_iret (ty := .boolean) dX13_takeTruth_28 rfl (md_bnar g28) ⟨rfl, rfl⟩
def mo_takeTruth (S : md_S) : Option (Int32 × md_S) :=
  md_l (md_p S 76 ((S.1 76) - 1)) fun S7 =>
  if md_in (S7.1 76) 100 then
  if (S7.2 77 (S7.1 76).toNatClampNeg) = 2 then
    mo_takeTruth_j28 1 S7
  else
    mo_takeTruth_j28 0 S7
  else none
theorem ro_takeTruth {l : Launch} {G : mv_G} {B : mv_H} {m d : Nat} (hG : mv_ok G) (hm : G.2.2.1 ≤ m) {S : md_S} {q : (Int32 × md_S)} (hq : mo_takeTruth S = some q) : mv_rq l G mX13_takeTruth d 0 (mv_in [.ref m] 1) [] (md_H G B m S) (md_Q G B m q) := by
  unfold mo_takeTruth at hq
  show mv_rq l G mX13_takeTruth d 0 [some (.ref m)] [] (md_H G B m S) _
  refine q_aload_n dX13_takeTruth_0 rfl ?_
  refine q_dup dX13_takeTruth_1 rfl ?_
  refine r_geti 76 dX13_takeTruth_2 fl_RX13_440 (by decide) rfl ki_76 ?_
  refine q_iconst (v := 1) dX13_takeTruth_5 (by decide) ?_
  refine q_isub dX13_takeTruth_6 ?_
  refine r_puti 76 .int dX13_takeTruth_7 fl_RX13_440 (by decide) rfl ki_76 rfl kp_76 rfl rfl hm (fun S7 e7 => ?_)
  have hq := md_l_e e7 hq
  clear e7
  show mv_rq l G mX13_takeTruth d 10 [some (.ref m)] [] (md_H G B m S7) _
  refine q_aload_n dX13_takeTruth_10 rfl ?_
  refine r_geta 77 dX13_takeTruth_11 fl_RX13_172 (by decide) rfl kk_77 ?_
  refine q_aload_n dX13_takeTruth_14 rfl ?_
  refine r_geti 76 dX13_takeTruth_15 fl_RX13_440 (by decide) rfl ki_76 ?_
  obtain ⟨g18, hq⟩ := md_g hq
  refine r_iald hG 77 dX13_takeTruth_18 kk_77 g18 ?_
  refine q_iconst (v := 2) dX13_takeTruth_19 (by decide) ?_
  refine q_icmp_ne (tgt := 27) dX13_takeTruth_20 (by decide) (fun c20 => ?_) (fun c20 => ?_)
  ·
    have hq := md_neg c20 hq
    refine q_iconst (v := 0) dX13_takeTruth_27 (by decide) ?_
    refine mv_weak (A := [none]) (by repeat' constructor) ?_
    exact ro_takeTruth_j28 hG hm hq
  ·
    have hq := md_pos c20 hq
    refine q_iconst (v := 1) dX13_takeTruth_23 (by decide) ?_
    refine q_goto (tgt := 28) dX13_takeTruth_24 (by decide) ?_
    refine mv_weak (A := [none]) (by repeat' constructor) ?_
    exact ro_takeTruth_j28 hG hm hq
def mo_logic_j82 (y0 : Int32) (S : md_S) : Option md_S :=
  md_c (mo_value y0 0 0 S) fun S84 =>
  some S84
theorem ro_logic_j82 {l : Launch} {G : mv_G} {B : mv_H} {m d : Nat} (hG : mv_ok G) (hm : G.2.2.1 ≤ m) {y0 : Int32} {S : md_S} {q : md_S} (hq : mo_logic_j82 y0 S = some q) : mv_rq l G mX13_logic (d + 1) 82 [none, none, none, none, none] [.int y0, .ref m] (md_H G B m S) (md_V G B m q) := by
  unfold mo_logic_j82 at hq
  refine q_iconst (v := 0) dX13_logic_82 (by decide) ?_
  refine q_iconst (v := 0) dX13_logic_83 (by decide) ?_
  obtain ⟨S84, e84, hq⟩ := md_c_e hq
  refine q_cV (Y := mX13_value) (As := [.int y0, .int 0, .int 0]) (st := []) (b := m) (ci := 15) vc_X13_value dX13_logic_84 ml_RX13_443 rfl md_obj rfl (Nat.le_of_ble_eq_true rfl) rfl (Nat.le_of_ble_eq_true rfl) (ro_value (d := d) hG hm e84) (fun v h1 hq1 => ?_) (fun E h1 hq1 => md_nV hq1)
  obtain ⟨hv, rfl⟩ := hq1
  cases hv
  show mv_rq l G mX13_logic (d + 1) 87 [none, none, none, none, none] [] (md_H G B m S84) _
  obtain rfl := Option.some.inj hq
  exact q_vret dX13_logic_87 rfl ⟨rfl, rfl⟩
def mo_logic_j69 (y0 : Int32) (S : md_S) : Option md_S :=
  if y0 = 0 then
    mo_logic_j82 1 S
  else
    mo_logic_j82 2 S
theorem ro_logic_j69 {l : Launch} {G : mv_G} {B : mv_H} {m d : Nat} (hG : mv_ok G) (hm : G.2.2.1 ≤ m) {y0 : Int32} {S : md_S} {q : md_S} (hq : mo_logic_j69 y0 S = some q) : mv_rq l G mX13_logic (d + 1) 69 [some (.ref m), none, none, none, none] [.int y0] (md_H G B m S) (md_V G B m q) := by
  unfold mo_logic_j69 at hq
  refine q_istore dX13_logic_69 (Nat.le_of_ble_eq_true rfl) rfl ?_
  show mv_rq l G mX13_logic (d + 1) 71 [some (.ref m), none, none, none, some (.int y0)] [] (md_H G B m S) _
  refine q_aload_n dX13_logic_71 rfl ?_
  refine q_iload dX13_logic_72 rfl ?_
  refine q_if_eq (tgt := 81) dX13_logic_74 (by decide) (fun c74 => ?_) (fun c74 => ?_)
  ·
    have hq := md_pos c74 hq
    refine q_iconst (v := 1) dX13_logic_81 (by decide) ?_
    refine mv_weak (A := [none, none, none, none, none]) (by repeat' constructor) ?_
    exact ro_logic_j82 hG hm hq
  ·
    have hq := md_neg c74 hq
    refine q_iconst (v := 2) dX13_logic_77 (by decide) ?_
    refine q_goto (tgt := 82) dX13_logic_78 (by decide) ?_
    refine mv_weak (A := [none, none, none, none, none]) (by repeat' constructor) ?_
    exact ro_logic_j82 hG hm hq
def mo_logic_j64 (S : md_S) : Option md_S :=
  mo_logic_j69 1 S
theorem ro_logic_j64 {l : Launch} {G : mv_G} {B : mv_H} {m d : Nat} (hG : mv_ok G) (hm : G.2.2.1 ≤ m) {S : md_S} {q : md_S} (hq : mo_logic_j64  S = some q) : mv_rq l G mX13_logic (d + 1) 64 [some (.ref m), none, none, none, none] [] (md_H G B m S) (md_V G B m q) := by
  unfold mo_logic_j64 at hq
  refine q_iconst (v := 1) dX13_logic_64 (by decide) ?_
  refine q_goto (tgt := 69) dX13_logic_65 (by decide) ?_
  refine mv_weak (A := [some (.ref m), none, none, none, none]) (by repeat' constructor) ?_
  exact ro_logic_j69 hG hm hq
def mo_logic_j52 (S : md_S) : Option md_S :=
  mo_logic_j69 0 S
theorem ro_logic_j52 {l : Launch} {G : mv_G} {B : mv_H} {m d : Nat} (hG : mv_ok G) (hm : G.2.2.1 ≤ m) {S : md_S} {q : md_S} (hq : mo_logic_j52  S = some q) : mv_rq l G mX13_logic (d + 1) 52 [some (.ref m), none, none, none, none] [] (md_H G B m S) (md_V G B m q) := by
  unfold mo_logic_j52 at hq
  refine q_iconst (v := 0) dX13_logic_52 (by decide) ?_
  refine q_goto (tgt := 69) dX13_logic_53 (by decide) ?_
  refine mv_weak (A := [some (.ref m), none, none, none, none]) (by repeat' constructor) ?_
  exact ro_logic_j69 hG hm hq
def mo_logic_j21 (y0 : Int32) (S : md_S) : Option md_S :=
  md_c (mo_value y0 0 0 S) fun S23 =>
  some S23
theorem ro_logic_j21 {l : Launch} {G : mv_G} {B : mv_H} {m d : Nat} (hG : mv_ok G) (hm : G.2.2.1 ≤ m) {y0 : Int32} {S : md_S} {q : md_S} (hq : mo_logic_j21 y0 S = some q) : mv_rq l G mX13_logic (d + 1) 21 [none, none, none, none, none] [.int y0, .ref m] (md_H G B m S) (md_V G B m q) := by
  unfold mo_logic_j21 at hq
  refine q_iconst (v := 0) dX13_logic_21 (by decide) ?_
  refine q_iconst (v := 0) dX13_logic_22 (by decide) ?_
  obtain ⟨S23, e23, hq⟩ := md_c_e hq
  refine q_cV (Y := mX13_value) (As := [.int y0, .int 0, .int 0]) (st := []) (b := m) (ci := 15) vc_X13_value dX13_logic_23 ml_RX13_443 rfl md_obj rfl (Nat.le_of_ble_eq_true rfl) rfl (Nat.le_of_ble_eq_true rfl) (ro_value (d := d) hG hm e23) (fun v h1 hq1 => ?_) (fun E h1 hq1 => md_nV hq1)
  obtain ⟨hv, rfl⟩ := hq1
  cases hv
  show mv_rq l G mX13_logic (d + 1) 26 [none, none, none, none, none] [] (md_H G B m S23) _
  refine q_goto (tgt := 87) dX13_logic_26 (by decide) ?_
  obtain rfl := Option.some.inj hq
  exact q_vret dX13_logic_87 rfl ⟨rfl, rfl⟩
def mo_logic (x1 : Int32) (S : md_S) : Option md_S :=
  md_b (mo_takeTruth S) fun v1 S1 =>
  if x1 = 8 then
    if v1 = 0 then
      mo_logic_j21 2 S1
    else
      mo_logic_j21 1 S1
  else
    md_b (mo_takeTruth S1) fun v30 S30 =>
    if x1 = 9 then
      if v30 = 0 then
        mo_logic_j52  S30
      else
        if v1 = 0 then
          mo_logic_j52  S30
        else
          mo_logic_j69 1 S30
    else
      if v30 = 0 then
        if v1 = 0 then
          mo_logic_j69 0 S30
        else
          mo_logic_j64  S30
      else
        mo_logic_j64  S30
theorem ro_logic {l : Launch} {G : mv_G} {B : mv_H} {m d : Nat} (hG : mv_ok G) (hm : G.2.2.1 ≤ m) {x1 : Int32} {S : md_S} {q : md_S} (hq : mo_logic x1 S = some q) : mv_rq l G mX13_logic (d + 1) 0 (mv_in [.ref m, .int x1] 5) [] (md_H G B m S) (md_V G B m q) := by
  unfold mo_logic at hq
  show mv_rq l G mX13_logic (d + 1) 0 [some (.ref m), some (.int x1), none, none, none] [] (md_H G B m S) _
  refine q_aload_n dX13_logic_0 rfl ?_
  obtain ⟨v1, S1, e1, hq⟩ := md_b_e hq
  refine q_cV (Y := mX13_takeTruth) (As := []) (st := []) (b := m) (ci := 15) vc_X13_takeTruth dX13_logic_1 ml_RX13_456 rfl md_obj rfl (Nat.le_of_ble_eq_true rfl) rfl (Nat.le_of_ble_eq_true rfl) (ro_takeTruth (d := d) hG hm e1) (fun v h1 hq1 => ?_) (fun E h1 hq1 => md_nQ hq1)
  obtain ⟨hv, rfl⟩ := hq1
  cases hv
  show mv_rq l G mX13_logic (d + 1) 4 [some (.ref m), some (.int x1), none, none, none] [.int v1] (md_H G B m S1) _
  refine q_istore_n dX13_logic_4 (Nat.le_of_ble_eq_true rfl) rfl ?_
  show mv_rq l G mX13_logic (d + 1) 5 [some (.ref m), some (.int x1), some (.int v1), none, none] [] (md_H G B m S1) _
  refine q_iload_n dX13_logic_5 rfl ?_
  refine q_bipush (v := 8) dX13_logic_6 (by decide) ?_
  refine q_icmp_ne (tgt := 29) dX13_logic_8 (by decide) (fun c8 => ?_) (fun c8 => ?_)
  ·
    have hq := md_neg c8 hq
    refine q_aload_n dX13_logic_29 rfl ?_
    obtain ⟨v30, S30, e30, hq⟩ := md_b_e hq
    refine q_cV (Y := mX13_takeTruth) (As := []) (st := []) (b := m) (ci := 15) vc_X13_takeTruth dX13_logic_30 ml_RX13_456 rfl md_obj rfl (Nat.le_of_ble_eq_true rfl) rfl (Nat.le_of_ble_eq_true rfl) (ro_takeTruth (d := d) hG hm e30) (fun v h1 hq1 => ?_) (fun E h1 hq1 => md_nQ hq1)
    obtain ⟨hv, rfl⟩ := hq1
    cases hv
    show mv_rq l G mX13_logic (d + 1) 33 [some (.ref m), some (.int x1), some (.int v1), none, none] [.int v30] (md_H G B m S30) _
    refine q_istore_n dX13_logic_33 (Nat.le_of_ble_eq_true rfl) rfl ?_
    show mv_rq l G mX13_logic (d + 1) 34 [some (.ref m), some (.int x1), some (.int v1), some (.int v30), none] [] (md_H G B m S30) _
    refine q_iload_n dX13_logic_34 rfl ?_
    refine q_bipush (v := 9) dX13_logic_35 (by decide) ?_
    refine q_icmp_ne (tgt := 56) dX13_logic_37 (by decide) (fun c37 => ?_) (fun c37 => ?_)
    ·
      have hq := md_neg c37 hq
      refine q_iload_n dX13_logic_56 rfl ?_
      refine q_if_ne (tgt := 64) dX13_logic_57 (by decide) (fun c57 => ?_) (fun c57 => ?_)
      ·
        have hq := md_neg c57 hq
        refine mv_weak (A := [some (.ref m), none, none, none, none]) (by repeat' constructor) ?_
        exact ro_logic_j64 hG hm hq
      ·
        have hq := md_pos c57 hq
        refine q_iload_n dX13_logic_60 rfl ?_
        refine q_if_eq (tgt := 68) dX13_logic_61 (by decide) (fun c61 => ?_) (fun c61 => ?_)
        ·
          have hq := md_pos c61 hq
          refine q_iconst (v := 0) dX13_logic_68 (by decide) ?_
          refine mv_weak (A := [some (.ref m), none, none, none, none]) (by repeat' constructor) ?_
          exact ro_logic_j69 hG hm hq
        ·
          have hq := md_neg c61 hq
          refine mv_weak (A := [some (.ref m), none, none, none, none]) (by repeat' constructor) ?_
          exact ro_logic_j64 hG hm hq
    ·
      have hq := md_pos c37 hq
      refine q_iload_n dX13_logic_40 rfl ?_
      refine q_if_eq (tgt := 52) dX13_logic_41 (by decide) (fun c41 => ?_) (fun c41 => ?_)
      ·
        have hq := md_pos c41 hq
        refine mv_weak (A := [some (.ref m), none, none, none, none]) (by repeat' constructor) ?_
        exact ro_logic_j52 hG hm hq
      ·
        have hq := md_neg c41 hq
        refine q_iload_n dX13_logic_44 rfl ?_
        refine q_if_eq (tgt := 52) dX13_logic_45 (by decide) (fun c45 => ?_) (fun c45 => ?_)
        ·
          have hq := md_pos c45 hq
          refine mv_weak (A := [some (.ref m), none, none, none, none]) (by repeat' constructor) ?_
          exact ro_logic_j52 hG hm hq
        ·
          have hq := md_neg c45 hq
          refine q_iconst (v := 1) dX13_logic_48 (by decide) ?_
          refine q_goto (tgt := 69) dX13_logic_49 (by decide) ?_
          refine mv_weak (A := [some (.ref m), none, none, none, none]) (by repeat' constructor) ?_
          exact ro_logic_j69 hG hm hq
  ·
    have hq := md_pos c8 hq
    refine q_aload_n dX13_logic_11 rfl ?_
    refine q_iload_n dX13_logic_12 rfl ?_
    refine q_if_eq (tgt := 20) dX13_logic_13 (by decide) (fun c13 => ?_) (fun c13 => ?_)
    ·
      have hq := md_pos c13 hq
      refine q_iconst (v := 2) dX13_logic_20 (by decide) ?_
      refine mv_weak (A := [none, none, none, none, none]) (by repeat' constructor) ?_
      exact ro_logic_j21 hG hm hq
    ·
      have hq := md_neg c13 hq
      refine q_iconst (v := 1) dX13_logic_16 (by decide) ?_
      refine q_goto (tgt := 21) dX13_logic_17 (by decide) ?_
      refine mv_weak (A := [none, none, none, none, none]) (by repeat' constructor) ?_
      exact ro_logic_j21 hG hm hq
def mo_lengthOf_j54 (N : Nat) (S : md_S) : Option md_S :=
  if md_in (S.1 76) 100 then
  md_b (mo_children N (S.2 78 (S.1 76).toNatClampNeg) S) fun v66 S66 =>
  md_c (mo_value 3 v66 0 S66) fun S70 =>
  some S70
  else none
theorem ro_lengthOf_j54 {l : Launch} {G : mv_G} {B : mv_H} {m N d : Nat} (hG : mv_ok G) (hm : G.2.2.1 ≤ m) {S : md_S} {q : md_S} (hq : mo_lengthOf_j54 N  S = some q) : mv_rq l G mX13_lengthOf (d + 1) 54 [some (.ref m), none] [] (md_H G B m S) (md_V G B m q) := by
  unfold mo_lengthOf_j54 at hq
  refine q_aload_n dX13_lengthOf_54 rfl ?_
  refine q_iconst (v := 3) dX13_lengthOf_55 (by decide) ?_
  refine q_aload_n dX13_lengthOf_56 rfl ?_
  refine q_aload_n dX13_lengthOf_57 rfl ?_
  refine r_geta 78 dX13_lengthOf_58 fl_RX13_175 (by decide) rfl kk_78 ?_
  refine q_aload_n dX13_lengthOf_61 rfl ?_
  refine r_geti 76 dX13_lengthOf_62 fl_RX13_440 (by decide) rfl ki_76 ?_
  obtain ⟨g65, hq⟩ := md_g hq
  refine r_iald hG 78 dX13_lengthOf_65 kk_78 g65 ?_
  obtain ⟨v66, S66, e66, hq⟩ := md_b_e hq
  refine q_cV (Y := mX13_children) (As := [.int (S.2 78 (S.1 76).toNatClampNeg)]) (st := [.int 3, .ref m]) (b := m) (ci := 15) vc_X13_children dX13_lengthOf_66 ml_RX13_428 rfl md_obj rfl (Nat.le_of_ble_eq_true rfl) rfl (Nat.le_of_ble_eq_true rfl) (ro_children (d := d) hG hm e66) (fun v h1 hq1 => ?_) (fun E h1 hq1 => md_nQ hq1)
  obtain ⟨hv, rfl⟩ := hq1
  cases hv
  show mv_rq l G mX13_lengthOf (d + 1) 69 [some (.ref m), none] [.int v66, .int 3, .ref m] (md_H G B m S66) _
  refine q_iconst (v := 0) dX13_lengthOf_69 (by decide) ?_
  obtain ⟨S70, e70, hq⟩ := md_c_e hq
  refine q_cV (Y := mX13_value) (As := [.int 3, .int v66, .int 0]) (st := []) (b := m) (ci := 15) vc_X13_value dX13_lengthOf_70 ml_RX13_443 rfl md_obj rfl (Nat.le_of_ble_eq_true rfl) rfl (Nat.le_of_ble_eq_true rfl) (ro_value (d := d) hG hm e70) (fun v h1 hq1 => ?_) (fun E h1 hq1 => md_nV hq1)
  obtain ⟨hv, rfl⟩ := hq1
  cases hv
  show mv_rq l G mX13_lengthOf (d + 1) 73 [some (.ref m), none] [] (md_H G B m S70) _
  refine q_goto (tgt := 84) dX13_lengthOf_73 (by decide) ?_
  obtain rfl := Option.some.inj hq
  exact q_vret dX13_lengthOf_84 rfl ⟨rfl, rfl⟩
def mo_lengthOf (N : Nat) (S : md_S) : Option md_S :=
  md_l (md_p S 76 ((S.1 76) - 1)) fun S7 =>
  if md_in (S7.1 76) 100 then
  if (S7.2 77 (S7.1 76).toNatClampNeg) = 4 then
    if md_in (S7.1 76) 100 then
    md_c (mo_value 3 (S7.2 79 (S7.1 76).toNatClampNeg) 0 S7) fun S37 =>
    some S37
    else none
  else
    if (S7.2 77 (S7.1 76).toNatClampNeg) = 5 then
      mo_lengthOf_j54 N  S7
    else
      if (S7.2 77 (S7.1 76).toNatClampNeg) = 6 then
        mo_lengthOf_j54 N  S7
      else
        md_c (mo_value 7 0 0 S7) fun S81 =>
        some S81
  else none
theorem ro_lengthOf {l : Launch} {G : mv_G} {B : mv_H} {m N d : Nat} (hG : mv_ok G) (hm : G.2.2.1 ≤ m) {S : md_S} {q : md_S} (hq : mo_lengthOf N S = some q) : mv_rq l G mX13_lengthOf (d + 1) 0 (mv_in [.ref m] 2) [] (md_H G B m S) (md_V G B m q) := by
  unfold mo_lengthOf at hq
  show mv_rq l G mX13_lengthOf (d + 1) 0 [some (.ref m), none] [] (md_H G B m S) _
  refine q_aload_n dX13_lengthOf_0 rfl ?_
  refine q_dup dX13_lengthOf_1 rfl ?_
  refine r_geti 76 dX13_lengthOf_2 fl_RX13_440 (by decide) rfl ki_76 ?_
  refine q_iconst (v := 1) dX13_lengthOf_5 (by decide) ?_
  refine q_isub dX13_lengthOf_6 ?_
  refine r_puti 76 .int dX13_lengthOf_7 fl_RX13_440 (by decide) rfl ki_76 rfl kp_76 rfl rfl hm (fun S7 e7 => ?_)
  have hq := md_l_e e7 hq
  clear e7
  show mv_rq l G mX13_lengthOf (d + 1) 10 [some (.ref m), none] [] (md_H G B m S7) _
  refine q_aload_n dX13_lengthOf_10 rfl ?_
  refine r_geta 77 dX13_lengthOf_11 fl_RX13_172 (by decide) rfl kk_77 ?_
  refine q_aload_n dX13_lengthOf_14 rfl ?_
  refine r_geti 76 dX13_lengthOf_15 fl_RX13_440 (by decide) rfl ki_76 ?_
  obtain ⟨g18, hq⟩ := md_g hq
  refine r_iald hG 77 dX13_lengthOf_18 kk_77 g18 ?_
  refine q_istore_n dX13_lengthOf_19 (Nat.le_of_ble_eq_true rfl) rfl ?_
  show mv_rq l G mX13_lengthOf (d + 1) 20 [some (.ref m), some (.int (S7.2 77 (S7.1 76).toNatClampNeg))] [] (md_H G B m S7) _
  refine q_iload_n dX13_lengthOf_20 rfl ?_
  refine q_iconst (v := 4) dX13_lengthOf_21 (by decide) ?_
  refine q_icmp_ne (tgt := 43) dX13_lengthOf_22 (by decide) (fun c22 => ?_) (fun c22 => ?_)
  ·
    have hq := md_neg c22 hq
    refine q_iload_n dX13_lengthOf_43 rfl ?_
    refine q_iconst (v := 5) dX13_lengthOf_44 (by decide) ?_
    refine q_icmp_eq (tgt := 54) dX13_lengthOf_45 (by decide) (fun c45 => ?_) (fun c45 => ?_)
    ·
      have hq := md_pos c45 hq
      refine mv_weak (A := [some (.ref m), none]) (by repeat' constructor) ?_
      exact ro_lengthOf_j54 hG hm hq
    ·
      have hq := md_neg c45 hq
      refine q_iload_n dX13_lengthOf_48 rfl ?_
      refine q_bipush (v := 6) dX13_lengthOf_49 (by decide) ?_
      refine q_icmp_ne (tgt := 76) dX13_lengthOf_51 (by decide) (fun c51 => ?_) (fun c51 => ?_)
      ·
        have hq := md_neg c51 hq
        refine q_aload_n dX13_lengthOf_76 rfl ?_
        refine q_bipush (v := 7) dX13_lengthOf_77 (by decide) ?_
        refine q_iconst (v := 0) dX13_lengthOf_79 (by decide) ?_
        refine q_iconst (v := 0) dX13_lengthOf_80 (by decide) ?_
        obtain ⟨S81, e81, hq⟩ := md_c_e hq
        refine q_cV (Y := mX13_value) (As := [.int 7, .int 0, .int 0]) (st := []) (b := m) (ci := 15) vc_X13_value dX13_lengthOf_81 ml_RX13_443 rfl md_obj rfl (Nat.le_of_ble_eq_true rfl) rfl (Nat.le_of_ble_eq_true rfl) (ro_value (d := d) hG hm e81) (fun v h1 hq1 => ?_) (fun E h1 hq1 => md_nV hq1)
        obtain ⟨hv, rfl⟩ := hq1
        cases hv
        show mv_rq l G mX13_lengthOf (d + 1) 84 [some (.ref m), some (.int (S7.2 77 (S7.1 76).toNatClampNeg))] [] (md_H G B m S81) _
        obtain rfl := Option.some.inj hq
        exact q_vret dX13_lengthOf_84 rfl ⟨rfl, rfl⟩
      ·
        have hq := md_pos c51 hq
        refine mv_weak (A := [some (.ref m), none]) (by repeat' constructor) ?_
        exact ro_lengthOf_j54 hG hm hq
  ·
    have hq := md_pos c22 hq
    refine q_aload_n dX13_lengthOf_25 rfl ?_
    refine q_iconst (v := 3) dX13_lengthOf_26 (by decide) ?_
    refine q_aload_n dX13_lengthOf_27 rfl ?_
    refine r_geta 79 dX13_lengthOf_28 fl_RX13_178 (by decide) rfl kk_79 ?_
    refine q_aload_n dX13_lengthOf_31 rfl ?_
    refine r_geti 76 dX13_lengthOf_32 fl_RX13_440 (by decide) rfl ki_76 ?_
    obtain ⟨g35, hq⟩ := md_g hq
    refine r_iald hG 79 dX13_lengthOf_35 kk_79 g35 ?_
    refine q_iconst (v := 0) dX13_lengthOf_36 (by decide) ?_
    obtain ⟨S37, e37, hq⟩ := md_c_e hq
    refine q_cV (Y := mX13_value) (As := [.int 3, .int (S7.2 79 (S7.1 76).toNatClampNeg), .int 0]) (st := []) (b := m) (ci := 15) vc_X13_value dX13_lengthOf_37 ml_RX13_443 rfl md_obj rfl (Nat.le_of_ble_eq_true rfl) rfl (Nat.le_of_ble_eq_true rfl) (ro_value (d := d) hG hm e37) (fun v h1 hq1 => ?_) (fun E h1 hq1 => md_nV hq1)
    obtain ⟨hv, rfl⟩ := hq1
    cases hv
    show mv_rq l G mX13_lengthOf (d + 1) 40 [some (.ref m), some (.int (S7.2 77 (S7.1 76).toNatClampNeg))] [] (md_H G B m S37) _
    refine q_goto (tgt := 84) dX13_lengthOf_40 (by decide) ?_
    obtain rfl := Option.some.inj hq
    exact q_vret dX13_lengthOf_84 rfl ⟨rfl, rfl⟩
def mo_letterOf_j30 (y0 : Int32) (S : md_S) : Option (Int32 × md_S) :=
  some (y0, S)
theorem ro_letterOf_j30 {l : Launch} {G : mv_G} {B : mv_H} {m d : Nat} (hG : mv_ok G) (hm : G.2.2.1 ≤ m) {y0 : Int32} {S : md_S} {q : (Int32 × md_S)} (hq : mo_letterOf_j30 y0 S = some q) : mv_rq l G mX13_letterOf d 30 [none, none, none] [.int y0] (md_H G B m S) (md_Q G B m q) := by
  unfold mo_letterOf_j30 at hq
  obtain rfl := Option.some.inj hq
  exact q_iret (ty := .int) dX13_letterOf_30 rfl rfl ⟨rfl, rfl⟩
def mo_letterOf (x1 : Int32) (x2 : Int32) (S : md_S) : Option (Int32 × md_S) :=
  if 1000 ≤ x1 then
    if md_in ((x1 - 1000) + x2) 160 then
    mo_letterOf_j30 (S.2 32 ((x1 - 1000) + x2).toNatClampNeg) S
    else none
  else
    if md_in (x1 + x2) 160 then
    mo_letterOf_j30 (S.2 11 (x1 + x2).toNatClampNeg) S
    else none
theorem ro_letterOf {l : Launch} {G : mv_G} {B : mv_H} {m d : Nat} (hG : mv_ok G) (hm : G.2.2.1 ≤ m) {x1 : Int32} {x2 : Int32} {S : md_S} {q : (Int32 × md_S)} (hq : mo_letterOf x1 x2 S = some q) : mv_rq l G mX13_letterOf d 0 (mv_in [.ref m, .int x1, .int x2] 3) [] (md_H G B m S) (md_Q G B m q) := by
  unfold mo_letterOf at hq
  show mv_rq l G mX13_letterOf d 0 [some (.ref m), some (.int x1), some (.int x2)] [] (md_H G B m S) _
  refine q_iload_n dX13_letterOf_0 rfl ?_
  refine q_sipush (v := 1000) dX13_letterOf_1 (by decide) ?_
  refine q_icmp_ge (tgt := 18) dX13_letterOf_4 (by decide) (fun c4 => ?_) (fun c4 => ?_)
  ·
    have hq := md_pos c4 hq
    refine q_aload_n dX13_letterOf_18 rfl ?_
    refine r_geta 32 dX13_letterOf_19 fl_RX13_51 (by decide) rfl kk_32 ?_
    refine q_iload_n dX13_letterOf_22 rfl ?_
    refine q_sipush (v := 1000) dX13_letterOf_23 (by decide) ?_
    refine q_isub dX13_letterOf_26 ?_
    refine q_iload_n dX13_letterOf_27 rfl ?_
    refine q_iadd dX13_letterOf_28 ?_
    obtain ⟨g29, hq⟩ := md_g hq
    refine r_bald hG 32 dX13_letterOf_29 kk_32 g29 ?_
    refine mv_weak (A := [none, none, none]) (by repeat' constructor) ?_
    exact ro_letterOf_j30 hG hm hq
  ·
    have hq := md_neg c4 hq
    refine q_aload_n dX13_letterOf_7 rfl ?_
    refine r_geta 11 dX13_letterOf_8 fl_RX13_20 (by decide) rfl kk_11 ?_
    refine q_iload_n dX13_letterOf_11 rfl ?_
    refine q_iload_n dX13_letterOf_12 rfl ?_
    refine q_iadd dX13_letterOf_13 ?_
    obtain ⟨g14, hq⟩ := md_g hq
    refine r_bald hG 11 dX13_letterOf_14 kk_11 g14 ?_
    refine q_goto (tgt := 30) dX13_letterOf_15 (by decide) ?_
    refine mv_weak (A := [none, none, none]) (by repeat' constructor) ?_
    exact ro_letterOf_j30 hG hm hq
def mo_order_j47 (N : Nat) (x2 : Int32) (x4 : Int32) (S : md_S) : Option (Int32 × md_S) :=
  some ((x2 - x4), S)
theorem ro_order_j47 {l : Launch} {G : mv_G} {B : mv_H} {m N d : Nat} (hG : mv_ok G) (hm : G.2.2.1 ≤ m) {x2 : Int32} {x4 : Int32} {S : md_S} {q : (Int32 × md_S)} (hq : mo_order_j47 N x2 x4 S = some q) : mv_rq l G mX13_order (d + 1) 47 [none, none, some (.int x2), none, some (.int x4), none, none] [] (md_H G B m S) (md_Q G B m q) := by
  unfold mo_order_j47 at hq
  refine q_iload_n dX13_order_47 rfl ?_
  refine q_iload dX13_order_48 rfl ?_
  refine q_isub dX13_order_50 ?_
  obtain rfl := Option.some.inj hq
  exact q_iret (ty := .int) dX13_order_51 rfl rfl ⟨rfl, rfl⟩
def mo_order_l3 (N : Nat) : Nat → Int32 → Int32 → Int32 → Int32 → Int32 → md_S → Option (Int32 × md_S)
  | 0, _, _, _, _, _, _ => none
  | n + 1, x1, x2, x3, x4, x5, S =>
    if x2 ≤ x5 then
      mo_order_j47 N x2 x4 S
    else
      if x4 ≤ x5 then
        mo_order_j47 N x2 x4 S
      else
        md_b (mo_letterOf x1 x5 S) fun v20 S20 =>
        md_b (mo_letterOf x3 x5 S20) fun v27 S27 =>
        if (v20 - v27) = 0 then
          mo_order_l3 N n x1 x2 x3 x4 (x5 + 1) S27
        else
          some ((v20 - v27), S27)
theorem ro_order_l3 {l : Launch} {G : mv_G} {B : mv_H} {m N d : Nat} (hG : mv_ok G) (hm : G.2.2.1 ≤ m) : ∀ n : Nat, ∀ {x1 : Int32} {x2 : Int32} {x3 : Int32} {x4 : Int32} {x5 : Int32} {S : md_S} {q : (Int32 × md_S)}, mo_order_l3 N n x1 x2 x3 x4 x5 S = some q → mv_rq l G mX13_order (d + 1) 3 [some (.ref m), some (.int x1), some (.int x2), some (.int x3), some (.int x4), some (.int x5), none] [] (md_H G B m S) (md_Q G B m q)
  | 0, _, _, _, _, _, _, _, hq => nomatch hq
  | n + 1, x1, x2, x3, x4, x5, S, q, hq => by
    rw [mo_order_l3] at hq
    refine q_iload dX13_order_3 rfl ?_
    refine q_iload_n dX13_order_5 rfl ?_
    refine q_icmp_ge (tgt := 47) dX13_order_6 (by decide) (fun c6 => ?_) (fun c6 => ?_)
    ·
      have hq := md_pos c6 hq
      refine mv_weak (A := [none, none, some (.int x2), none, some (.int x4), none, none]) (by repeat' constructor) ?_
      exact ro_order_j47 hG hm hq
    ·
      have hq := md_neg c6 hq
      refine q_iload dX13_order_9 rfl ?_
      refine q_iload dX13_order_11 rfl ?_
      refine q_icmp_ge (tgt := 47) dX13_order_13 (by decide) (fun c13 => ?_) (fun c13 => ?_)
      ·
        have hq := md_pos c13 hq
        refine mv_weak (A := [none, none, some (.int x2), none, some (.int x4), none, none]) (by repeat' constructor) ?_
        exact ro_order_j47 hG hm hq
      ·
        have hq := md_neg c13 hq
        refine q_aload_n dX13_order_16 rfl ?_
        refine q_iload_n dX13_order_17 rfl ?_
        refine q_iload dX13_order_18 rfl ?_
        obtain ⟨v20, S20, e20, hq⟩ := md_b_e hq
        refine q_cV (Y := mX13_letterOf) (As := [.int x1, .int x5]) (st := []) (b := m) (ci := 15) vc_X13_letterOf dX13_order_20 ml_RX13_471 rfl md_obj rfl (Nat.le_of_ble_eq_true rfl) rfl (Nat.le_of_ble_eq_true rfl) (ro_letterOf (d := d) hG hm e20) (fun v h1 hq1 => ?_) (fun E h1 hq1 => md_nQ hq1)
        obtain ⟨hv, rfl⟩ := hq1
        cases hv
        show mv_rq l G mX13_order (d + 1) 23 [some (.ref m), some (.int x1), some (.int x2), some (.int x3), some (.int x4), some (.int x5), none] [.int v20] (md_H G B m S20) _
        refine q_aload_n dX13_order_23 rfl ?_
        refine q_iload_n dX13_order_24 rfl ?_
        refine q_iload dX13_order_25 rfl ?_
        obtain ⟨v27, S27, e27, hq⟩ := md_b_e hq
        refine q_cV (Y := mX13_letterOf) (As := [.int x3, .int x5]) (st := [.int v20]) (b := m) (ci := 15) vc_X13_letterOf dX13_order_27 ml_RX13_471 rfl md_obj rfl (Nat.le_of_ble_eq_true rfl) rfl (Nat.le_of_ble_eq_true rfl) (ro_letterOf (d := d) hG hm e27) (fun v h1 hq1 => ?_) (fun E h1 hq1 => md_nQ hq1)
        obtain ⟨hv, rfl⟩ := hq1
        cases hv
        show mv_rq l G mX13_order (d + 1) 30 [some (.ref m), some (.int x1), some (.int x2), some (.int x3), some (.int x4), some (.int x5), none] [.int v27, .int v20] (md_H G B m S27) _
        refine q_isub dX13_order_30 ?_
        refine q_istore dX13_order_31 (Nat.le_of_ble_eq_true rfl) rfl ?_
        show mv_rq l G mX13_order (d + 1) 33 [some (.ref m), some (.int x1), some (.int x2), some (.int x3), some (.int x4), some (.int x5), some (.int (v20 - v27))] [] (md_H G B m S27) _
        refine q_iload dX13_order_33 rfl ?_
        refine q_if_eq (tgt := 41) dX13_order_35 (by decide) (fun c35 => ?_) (fun c35 => ?_)
        ·
          have hq := md_pos c35 hq
          refine q_iinc dX13_order_41 rfl rfl ?_
          show mv_rq l G mX13_order (d + 1) 44 [some (.ref m), some (.int x1), some (.int x2), some (.int x3), some (.int x4), some (.int (x5 + 1)), some (.int (v20 - v27))] [] (md_H G B m S27) _
          refine q_goto (tgt := 3) dX13_order_44 (by decide) ?_
          refine mv_weak (A := [some (.ref m), some (.int x1), some (.int x2), some (.int x3), some (.int x4), some (.int (x5 + 1)), none]) (by repeat' constructor) ?_
          exact ro_order_l3 hG hm n hq
        ·
          have hq := md_neg c35 hq
          refine q_iload dX13_order_38 rfl ?_
          obtain rfl := Option.some.inj hq
          exact q_iret (ty := .int) dX13_order_40 rfl rfl ⟨rfl, rfl⟩
def mo_order (N : Nat) (x1 : Int32) (x2 : Int32) (x3 : Int32) (x4 : Int32) (S : md_S) : Option (Int32 × md_S) :=
  mo_order_l3 N N x1 x2 x3 x4 0 S
theorem ro_order {l : Launch} {G : mv_G} {B : mv_H} {m N d : Nat} (hG : mv_ok G) (hm : G.2.2.1 ≤ m) {x1 : Int32} {x2 : Int32} {x3 : Int32} {x4 : Int32} {S : md_S} {q : (Int32 × md_S)} (hq : mo_order N x1 x2 x3 x4 S = some q) : mv_rq l G mX13_order (d + 1) 0 (mv_in [.ref m, .int x1, .int x2, .int x3, .int x4] 7) [] (md_H G B m S) (md_Q G B m q) := by
  unfold mo_order at hq
  show mv_rq l G mX13_order (d + 1) 0 [some (.ref m), some (.int x1), some (.int x2), some (.int x3), some (.int x4), none, none] [] (md_H G B m S) _
  refine q_iconst (v := 0) dX13_order_0 (by decide) ?_
  refine q_istore dX13_order_1 (Nat.le_of_ble_eq_true rfl) rfl ?_
  show mv_rq l G mX13_order (d + 1) 3 [some (.ref m), some (.int x1), some (.int x2), some (.int x3), some (.int x4), some (.int 0), none] [] (md_H G B m S) _
  refine mv_weak (A := [some (.ref m), some (.int x1), some (.int x2), some (.int x3), some (.int x4), some (.int 0), none]) (by repeat' constructor) ?_
  exact ro_order_l3 hG hm N hq
def mo_isLeafAlike_j98 (N : Nat) (y0 : Int32) (S : md_S) : Option (Int32 × md_S) :=
  if md_bo y0 then
  some (y0, S)
  else none
theorem ro_isLeafAlike_j98 {l : Launch} {G : mv_G} {B : mv_H} {m N d : Nat} (hG : mv_ok G) (hm : G.2.2.1 ≤ m) {y0 : Int32} {S : md_S} {q : (Int32 × md_S)} (hq : mo_isLeafAlike_j98 N y0 S = some q) : mv_rq l G mX13_isLeafAlike (d + 2) 98 [none, none, none] [.int y0] (md_H G B m S) (md_Q G B m q) := by
  unfold mo_isLeafAlike_j98 at hq
  obtain ⟨g98, hq⟩ := md_g hq
  obtain rfl := Option.some.inj hq
  exact q_iret (ty := .boolean) dX13_isLeafAlike_98 rfl (md_bnar g98) ⟨rfl, rfl⟩
def mo_isLeafAlike_j93 (N : Nat) (S : md_S) : Option (Int32 × md_S) :=
  mo_isLeafAlike_j98 N 1 S
theorem ro_isLeafAlike_j93 {l : Launch} {G : mv_G} {B : mv_H} {m N d : Nat} (hG : mv_ok G) (hm : G.2.2.1 ≤ m) {S : md_S} {q : (Int32 × md_S)} (hq : mo_isLeafAlike_j93 N  S = some q) : mv_rq l G mX13_isLeafAlike (d + 2) 93 [none, none, none] [] (md_H G B m S) (md_Q G B m q) := by
  unfold mo_isLeafAlike_j93 at hq
  refine q_iconst (v := 1) dX13_isLeafAlike_93 (by decide) ?_
  refine q_goto (tgt := 98) dX13_isLeafAlike_94 (by decide) ?_
  refine mv_weak (A := [none, none, none]) (by repeat' constructor) ?_
  exact ro_isLeafAlike_j98 hG hm hq
def mo_isLeafAlike_j47 (N : Nat) (y0 : Int32) (S : md_S) : Option (Int32 × md_S) :=
  if md_bo y0 then
  some (y0, S)
  else none
theorem ro_isLeafAlike_j47 {l : Launch} {G : mv_G} {B : mv_H} {m N d : Nat} (hG : mv_ok G) (hm : G.2.2.1 ≤ m) {y0 : Int32} {S : md_S} {q : (Int32 × md_S)} (hq : mo_isLeafAlike_j47 N y0 S = some q) : mv_rq l G mX13_isLeafAlike (d + 2) 47 [none, none, none] [.int y0] (md_H G B m S) (md_Q G B m q) := by
  unfold mo_isLeafAlike_j47 at hq
  obtain ⟨g47, hq⟩ := md_g hq
  obtain rfl := Option.some.inj hq
  exact q_iret (ty := .boolean) dX13_isLeafAlike_47 rfl (md_bnar g47) ⟨rfl, rfl⟩
def mo_isLeafAlike (N : Nat) (x1 : Int32) (x2 : Int32) (S : md_S) : Option (Int32 × md_S) :=
  if md_in x1 41 then
  if md_in x2 41 then
  if (S.2 12 x1.toNatClampNeg) = (S.2 12 x2.toNatClampNeg) then
    if md_in x1 41 then
    if (S.2 12 x1.toNatClampNeg) = 3 then
      if md_in x1 41 then
      if md_in x2 41 then
      if (S.2 17 x1.toNatClampNeg) = (S.2 17 x2.toNatClampNeg) then
        mo_isLeafAlike_j47 N 1 S
      else
        mo_isLeafAlike_j47 N 0 S
      else none
      else none
    else
      if md_in x1 41 then
      if (S.2 12 x1.toNatClampNeg) = 4 then
        if md_in x1 41 then
        if md_in x1 41 then
        if md_in x2 41 then
        if md_in x2 41 then
        md_b (mo_order N ((S.2 15 x1.toNatClampNeg) + 1) (S.2 17 x1.toNatClampNeg) ((S.2 15 x2.toNatClampNeg) + 1) (S.2 17 x2.toNatClampNeg) S) fun v87 S87 =>
        if v87 = 0 then
          mo_isLeafAlike_j93 N  S87
        else
          mo_isLeafAlike_j98 N 0 S87
        else none
        else none
        else none
        else none
      else
        mo_isLeafAlike_j93 N  S
      else none
    else none
  else
    some (0, S)
  else none
  else none
theorem ro_isLeafAlike {l : Launch} {G : mv_G} {B : mv_H} {m N d : Nat} (hG : mv_ok G) (hm : G.2.2.1 ≤ m) {x1 : Int32} {x2 : Int32} {S : md_S} {q : (Int32 × md_S)} (hq : mo_isLeafAlike N x1 x2 S = some q) : mv_rq l G mX13_isLeafAlike (d + 2) 0 (mv_in [.ref m, .int x1, .int x2] 3) [] (md_H G B m S) (md_Q G B m q) := by
  unfold mo_isLeafAlike at hq
  show mv_rq l G mX13_isLeafAlike (d + 2) 0 [some (.ref m), some (.int x1), some (.int x2)] [] (md_H G B m S) _
  refine q_aload_n dX13_isLeafAlike_0 rfl ?_
  refine r_geta 12 dX13_isLeafAlike_1 fl_RX13_23 (by decide) rfl kk_12 ?_
  refine q_iload_n dX13_isLeafAlike_4 rfl ?_
  obtain ⟨g5, hq⟩ := md_g hq
  refine r_iald hG 12 dX13_isLeafAlike_5 kk_12 g5 ?_
  refine q_aload_n dX13_isLeafAlike_6 rfl ?_
  refine r_geta 12 dX13_isLeafAlike_7 fl_RX13_23 (by decide) rfl kk_12 ?_
  refine q_iload_n dX13_isLeafAlike_10 rfl ?_
  obtain ⟨g11, hq⟩ := md_g hq
  refine r_iald hG 12 dX13_isLeafAlike_11 kk_12 g11 ?_
  refine q_icmp_eq (tgt := 17) dX13_isLeafAlike_12 (by decide) (fun c12 => ?_) (fun c12 => ?_)
  ·
    have hq := md_pos c12 hq
    refine q_aload_n dX13_isLeafAlike_17 rfl ?_
    refine r_geta 12 dX13_isLeafAlike_18 fl_RX13_23 (by decide) rfl kk_12 ?_
    refine q_iload_n dX13_isLeafAlike_21 rfl ?_
    obtain ⟨g22, hq⟩ := md_g hq
    refine r_iald hG 12 dX13_isLeafAlike_22 kk_12 g22 ?_
    refine q_iconst (v := 3) dX13_isLeafAlike_23 (by decide) ?_
    refine q_icmp_ne (tgt := 48) dX13_isLeafAlike_24 (by decide) (fun c24 => ?_) (fun c24 => ?_)
    ·
      have hq := md_neg c24 hq
      refine q_aload_n dX13_isLeafAlike_48 rfl ?_
      refine r_geta 12 dX13_isLeafAlike_49 fl_RX13_23 (by decide) rfl kk_12 ?_
      refine q_iload_n dX13_isLeafAlike_52 rfl ?_
      obtain ⟨g53, hq⟩ := md_g hq
      refine r_iald hG 12 dX13_isLeafAlike_53 kk_12 g53 ?_
      refine q_iconst (v := 4) dX13_isLeafAlike_54 (by decide) ?_
      refine q_icmp_ne (tgt := 93) dX13_isLeafAlike_55 (by decide) (fun c55 => ?_) (fun c55 => ?_)
      ·
        have hq := md_neg c55 hq
        refine mv_weak (A := [none, none, none]) (by repeat' constructor) ?_
        exact ro_isLeafAlike_j93 hG hm hq
      ·
        have hq := md_pos c55 hq
        refine q_aload_n dX13_isLeafAlike_58 rfl ?_
        refine q_aload_n dX13_isLeafAlike_59 rfl ?_
        refine r_geta 15 dX13_isLeafAlike_60 fl_RX13_33 (by decide) rfl kk_15 ?_
        refine q_iload_n dX13_isLeafAlike_63 rfl ?_
        obtain ⟨g64, hq⟩ := md_g hq
        refine r_iald hG 15 dX13_isLeafAlike_64 kk_15 g64 ?_
        refine q_iconst (v := 1) dX13_isLeafAlike_65 (by decide) ?_
        refine q_iadd dX13_isLeafAlike_66 ?_
        refine q_aload_n dX13_isLeafAlike_67 rfl ?_
        refine r_geta 17 dX13_isLeafAlike_68 fl_RX13_39 (by decide) rfl kk_17 ?_
        refine q_iload_n dX13_isLeafAlike_71 rfl ?_
        obtain ⟨g72, hq⟩ := md_g hq
        refine r_iald hG 17 dX13_isLeafAlike_72 kk_17 g72 ?_
        refine q_aload_n dX13_isLeafAlike_73 rfl ?_
        refine r_geta 15 dX13_isLeafAlike_74 fl_RX13_33 (by decide) rfl kk_15 ?_
        refine q_iload_n dX13_isLeafAlike_77 rfl ?_
        obtain ⟨g78, hq⟩ := md_g hq
        refine r_iald hG 15 dX13_isLeafAlike_78 kk_15 g78 ?_
        refine q_iconst (v := 1) dX13_isLeafAlike_79 (by decide) ?_
        refine q_iadd dX13_isLeafAlike_80 ?_
        refine q_aload_n dX13_isLeafAlike_81 rfl ?_
        refine r_geta 17 dX13_isLeafAlike_82 fl_RX13_39 (by decide) rfl kk_17 ?_
        refine q_iload_n dX13_isLeafAlike_85 rfl ?_
        obtain ⟨g86, hq⟩ := md_g hq
        refine r_iald hG 17 dX13_isLeafAlike_86 kk_17 g86 ?_
        obtain ⟨v87, S87, e87, hq⟩ := md_b_e hq
        refine q_cV (Y := mX13_order) (As := [.int ((S.2 15 x1.toNatClampNeg) + 1), .int (S.2 17 x1.toNatClampNeg), .int ((S.2 15 x2.toNatClampNeg) + 1), .int (S.2 17 x2.toNatClampNeg)]) (st := []) (b := m) (ci := 15) vc_X13_order dX13_isLeafAlike_87 ml_RX13_474 rfl md_obj rfl (Nat.le_of_ble_eq_true rfl) rfl (Nat.le_of_ble_eq_true rfl) (ro_order (d := d) hG hm e87) (fun v h1 hq1 => ?_) (fun E h1 hq1 => md_nQ hq1)
        obtain ⟨hv, rfl⟩ := hq1
        cases hv
        show mv_rq l G mX13_isLeafAlike (d + 2) 90 [some (.ref m), some (.int x1), some (.int x2)] [.int v87] (md_H G B m S87) _
        refine q_if_ne (tgt := 97) dX13_isLeafAlike_90 (by decide) (fun c90 => ?_) (fun c90 => ?_)
        ·
          have hq := md_neg c90 hq
          refine q_iconst (v := 0) dX13_isLeafAlike_97 (by decide) ?_
          refine mv_weak (A := [none, none, none]) (by repeat' constructor) ?_
          exact ro_isLeafAlike_j98 hG hm hq
        ·
          have hq := md_pos c90 hq
          refine mv_weak (A := [none, none, none]) (by repeat' constructor) ?_
          exact ro_isLeafAlike_j93 hG hm hq
    ·
      have hq := md_pos c24 hq
      refine q_aload_n dX13_isLeafAlike_27 rfl ?_
      refine r_geta 17 dX13_isLeafAlike_28 fl_RX13_39 (by decide) rfl kk_17 ?_
      refine q_iload_n dX13_isLeafAlike_31 rfl ?_
      obtain ⟨g32, hq⟩ := md_g hq
      refine r_iald hG 17 dX13_isLeafAlike_32 kk_17 g32 ?_
      refine q_aload_n dX13_isLeafAlike_33 rfl ?_
      refine r_geta 17 dX13_isLeafAlike_34 fl_RX13_39 (by decide) rfl kk_17 ?_
      refine q_iload_n dX13_isLeafAlike_37 rfl ?_
      obtain ⟨g38, hq⟩ := md_g hq
      refine r_iald hG 17 dX13_isLeafAlike_38 kk_17 g38 ?_
      refine q_icmp_ne (tgt := 46) dX13_isLeafAlike_39 (by decide) (fun c39 => ?_) (fun c39 => ?_)
      ·
        have hq := md_neg c39 hq
        refine q_iconst (v := 0) dX13_isLeafAlike_46 (by decide) ?_
        refine mv_weak (A := [none, none, none]) (by repeat' constructor) ?_
        exact ro_isLeafAlike_j47 hG hm hq
      ·
        have hq := md_pos c39 hq
        refine q_iconst (v := 1) dX13_isLeafAlike_42 (by decide) ?_
        refine q_goto (tgt := 47) dX13_isLeafAlike_43 (by decide) ?_
        refine mv_weak (A := [none, none, none]) (by repeat' constructor) ?_
        exact ro_isLeafAlike_j47 hG hm hq
  ·
    have hq := md_neg c12 hq
    refine q_iconst (v := 0) dX13_isLeafAlike_15 (by decide) ?_
    obtain rfl := Option.some.inj hq
    exact q_iret (ty := .boolean) dX13_isLeafAlike_16 rfl rfl ⟨rfl, rfl⟩
def mo_answer_l28 (N : Nat) : Nat → Int32 → Int32 → Int32 → md_S → Option (Int32 × md_S)
  | 0, _, _, _, _ => none
  | n + 1, x2, x4, x5, S =>
    if x5 = (-1) then
      some ((-1), S)
    else
      if md_in x2 41 then
      if md_in x2 41 then
      if md_in x5 41 then
      if md_in x5 41 then
      md_b (mo_isSame N 11 (S.2 18 x2.toNatClampNeg) (S.2 19 x2.toNatClampNeg) 11 (S.2 18 x5.toNatClampNeg) (S.2 19 x5.toNatClampNeg) S) fun v69 S69 =>
      if v69 = 0 then
        md_b (mo_follower N x4 x5 S69) fun v83 S83 =>
        mo_answer_l28 N n x2 x4 v83 S83
      else
        some (x5, S69)
      else none
      else none
      else none
      else none
theorem ro_answer_l28 {l : Launch} {G : mv_G} {B : mv_H} {m N d : Nat} (hG : mv_ok G) (hm : G.2.2.1 ≤ m) : ∀ n : Nat, ∀ {x2 : Int32} {x4 : Int32} {x5 : Int32} {S : md_S} {q : (Int32 × md_S)}, mo_answer_l28 N n x2 x4 x5 S = some q → mv_rq l G mX13_answer (d + 2) 28 [some (.ref m), none, some (.int x2), none, some (.int x4), some (.int x5)] [] (md_H G B m S) (md_Q G B m q)
  | 0, _, _, _, _, _, hq => nomatch hq
  | n + 1, x2, x4, x5, S, q, hq => by
    rw [mo_answer_l28] at hq
    refine q_iload dX13_answer_28 rfl ?_
    refine q_iconst (v := (-1)) dX13_answer_30 (by decide) ?_
    refine q_icmp_eq (tgt := 91) dX13_answer_31 (by decide) (fun c31 => ?_) (fun c31 => ?_)
    ·
      have hq := md_pos c31 hq
      refine q_iconst (v := (-1)) dX13_answer_91 (by decide) ?_
      obtain rfl := Option.some.inj hq
      exact q_iret (ty := .int) dX13_answer_92 rfl rfl ⟨rfl, rfl⟩
    ·
      have hq := md_neg c31 hq
      refine q_aload_n dX13_answer_34 rfl ?_
      refine q_aload_n dX13_answer_35 rfl ?_
      refine r_geta 11 dX13_answer_36 fl_RX13_20 (by decide) rfl kk_11 ?_
      refine q_aload_n dX13_answer_39 rfl ?_
      refine r_geta 18 dX13_answer_40 fl_RX13_42 (by decide) rfl kk_18 ?_
      refine q_iload_n dX13_answer_43 rfl ?_
      obtain ⟨g44, hq⟩ := md_g hq
      refine r_iald hG 18 dX13_answer_44 kk_18 g44 ?_
      refine q_aload_n dX13_answer_45 rfl ?_
      refine r_geta 19 dX13_answer_46 fl_RX13_45 (by decide) rfl kk_19 ?_
      refine q_iload_n dX13_answer_49 rfl ?_
      obtain ⟨g50, hq⟩ := md_g hq
      refine r_iald hG 19 dX13_answer_50 kk_19 g50 ?_
      refine q_aload_n dX13_answer_51 rfl ?_
      refine r_geta 11 dX13_answer_52 fl_RX13_20 (by decide) rfl kk_11 ?_
      refine q_aload_n dX13_answer_55 rfl ?_
      refine r_geta 18 dX13_answer_56 fl_RX13_42 (by decide) rfl kk_18 ?_
      refine q_iload dX13_answer_59 rfl ?_
      obtain ⟨g61, hq⟩ := md_g hq
      refine r_iald hG 18 dX13_answer_61 kk_18 g61 ?_
      refine q_aload_n dX13_answer_62 rfl ?_
      refine r_geta 19 dX13_answer_63 fl_RX13_45 (by decide) rfl kk_19 ?_
      refine q_iload dX13_answer_66 rfl ?_
      obtain ⟨g68, hq⟩ := md_g hq
      refine r_iald hG 19 dX13_answer_68 kk_19 g68 ?_
      obtain ⟨v69, S69, e69, hq⟩ := md_b_e hq
      refine q_cV (Y := mX13_isSame) (As := [.ref (m + md_ad 11), .int (S.2 18 x2.toNatClampNeg), .int (S.2 19 x2.toNatClampNeg), .ref (m + md_ad 11), .int (S.2 18 x5.toNatClampNeg), .int (S.2 19 x5.toNatClampNeg)]) (st := []) (b := m) (ci := 15) vc_X13_isSame dX13_answer_69 ml_RX13_271 rfl md_obj rfl (Nat.le_of_ble_eq_true rfl) rfl (Nat.le_of_ble_eq_true rfl) (ro_isSame (d := d + 1) hG hm e69) (fun v h1 hq1 => ?_) (fun E h1 hq1 => md_nQ hq1)
      obtain ⟨hv, rfl⟩ := hq1
      cases hv
      show mv_rq l G mX13_answer (d + 2) 72 [some (.ref m), none, some (.int x2), none, some (.int x4), some (.int x5)] [.int v69] (md_H G B m S69) _
      refine q_if_eq (tgt := 78) dX13_answer_72 (by decide) (fun c72 => ?_) (fun c72 => ?_)
      ·
        have hq := md_pos c72 hq
        refine q_aload_n dX13_answer_78 rfl ?_
        refine q_iload dX13_answer_79 rfl ?_
        refine q_iload dX13_answer_81 rfl ?_
        obtain ⟨v83, S83, e83, hq⟩ := md_b_e hq
        refine q_cV (Y := mX13_follower) (As := [.int x4, .int x5]) (st := []) (b := m) (ci := 15) vc_X13_follower dX13_answer_83 ml_RX13_415 rfl md_obj rfl (Nat.le_of_ble_eq_true rfl) rfl (Nat.le_of_ble_eq_true rfl) (ro_follower (d := d + 1) hG hm e83) (fun v h1 hq1 => ?_) (fun E h1 hq1 => md_nQ hq1)
        obtain ⟨hv, rfl⟩ := hq1
        cases hv
        show mv_rq l G mX13_answer (d + 2) 86 [some (.ref m), none, some (.int x2), none, some (.int x4), some (.int x5)] [.int v83] (md_H G B m S83) _
        refine q_istore dX13_answer_86 (Nat.le_of_ble_eq_true rfl) rfl ?_
        show mv_rq l G mX13_answer (d + 2) 88 [some (.ref m), none, some (.int x2), none, some (.int x4), some (.int v83)] [] (md_H G B m S83) _
        refine q_goto (tgt := 28) dX13_answer_88 (by decide) ?_
        refine mv_weak (A := [some (.ref m), none, some (.int x2), none, some (.int x4), some (.int v83)]) (by repeat' constructor) ?_
        exact ro_answer_l28 hG hm n hq
      ·
        have hq := md_neg c72 hq
        refine q_iload dX13_answer_75 rfl ?_
        obtain rfl := Option.some.inj hq
        exact q_iret (ty := .int) dX13_answer_77 rfl rfl ⟨rfl, rfl⟩
def mo_answer (N : Nat) (x1 : Int32) (x2 : Int32) (x3 : Int32) (x4 : Int32) (S : md_S) : Option (Int32 × md_S) :=
  if md_in x1 41 then
  if (S.2 12 x1.toNatClampNeg) = 5 then
    md_b (mo_childAt N x4 x3 S) fun v14 S14 =>
    some (v14, S14)
  else
    md_b (mo_follower N x4 x4 S) fun v23 S23 =>
    mo_answer_l28 N N x2 x4 v23 S23
  else none
theorem ro_answer {l : Launch} {G : mv_G} {B : mv_H} {m N d : Nat} (hG : mv_ok G) (hm : G.2.2.1 ≤ m) {x1 : Int32} {x2 : Int32} {x3 : Int32} {x4 : Int32} {S : md_S} {q : (Int32 × md_S)} (hq : mo_answer N x1 x2 x3 x4 S = some q) : mv_rq l G mX13_answer (d + 2) 0 (mv_in [.ref m, .int x1, .int x2, .int x3, .int x4] 6) [] (md_H G B m S) (md_Q G B m q) := by
  unfold mo_answer at hq
  show mv_rq l G mX13_answer (d + 2) 0 [some (.ref m), some (.int x1), some (.int x2), some (.int x3), some (.int x4), none] [] (md_H G B m S) _
  refine q_aload_n dX13_answer_0 rfl ?_
  refine r_geta 12 dX13_answer_1 fl_RX13_23 (by decide) rfl kk_12 ?_
  refine q_iload_n dX13_answer_4 rfl ?_
  obtain ⟨g5, hq⟩ := md_g hq
  refine r_iald hG 12 dX13_answer_5 kk_12 g5 ?_
  refine q_iconst (v := 5) dX13_answer_6 (by decide) ?_
  refine q_icmp_ne (tgt := 18) dX13_answer_7 (by decide) (fun c7 => ?_) (fun c7 => ?_)
  ·
    have hq := md_neg c7 hq
    refine q_aload_n dX13_answer_18 rfl ?_
    refine q_iload dX13_answer_19 rfl ?_
    refine q_iload dX13_answer_21 rfl ?_
    obtain ⟨v23, S23, e23, hq⟩ := md_b_e hq
    refine q_cV (Y := mX13_follower) (As := [.int x4, .int x4]) (st := []) (b := m) (ci := 15) vc_X13_follower dX13_answer_23 ml_RX13_415 rfl md_obj rfl (Nat.le_of_ble_eq_true rfl) rfl (Nat.le_of_ble_eq_true rfl) (ro_follower (d := d + 1) hG hm e23) (fun v h1 hq1 => ?_) (fun E h1 hq1 => md_nQ hq1)
    obtain ⟨hv, rfl⟩ := hq1
    cases hv
    show mv_rq l G mX13_answer (d + 2) 26 [some (.ref m), some (.int x1), some (.int x2), some (.int x3), some (.int x4), none] [.int v23] (md_H G B m S23) _
    refine q_istore dX13_answer_26 (Nat.le_of_ble_eq_true rfl) rfl ?_
    show mv_rq l G mX13_answer (d + 2) 28 [some (.ref m), some (.int x1), some (.int x2), some (.int x3), some (.int x4), some (.int v23)] [] (md_H G B m S23) _
    refine mv_weak (A := [some (.ref m), none, some (.int x2), none, some (.int x4), some (.int v23)]) (by repeat' constructor) ?_
    exact ro_answer_l28 hG hm N hq
  ·
    have hq := md_pos c7 hq
    refine q_aload_n dX13_answer_10 rfl ?_
    refine q_iload dX13_answer_11 rfl ?_
    refine q_iload_n dX13_answer_13 rfl ?_
    obtain ⟨v14, S14, e14, hq⟩ := md_b_e hq
    refine q_cV (Y := mX13_childAt) (As := [.int x4, .int x3]) (st := []) (b := m) (ci := 15) vc_X13_childAt dX13_answer_14 ml_RX13_422 rfl md_obj rfl (Nat.le_of_ble_eq_true rfl) rfl (Nat.le_of_ble_eq_true rfl) (ro_childAt (d := d) hG hm e14) (fun v h1 hq1 => ?_) (fun E h1 hq1 => md_nQ hq1)
    obtain ⟨hv, rfl⟩ := hq1
    cases hv
    show mv_rq l G mX13_answer (d + 2) 17 [some (.ref m), some (.int x1), some (.int x2), some (.int x3), some (.int x4), none] [.int v14] (md_H G B m S14) _
    obtain rfl := Option.some.inj hq
    exact q_iret (ty := .int) dX13_answer_17 rfl rfl ⟨rfl, rfl⟩
def mo_isAlike_j189 (N : Nat) (x4 : Int32) (S : md_S) : Option (Int32 × md_S) :=
  if md_bo x4 then
  some (x4, S)
  else none
theorem ro_isAlike_j189 {l : Launch} {G : mv_G} {B : mv_H} {m N d : Nat} (hG : mv_ok G) (hm : G.2.2.1 ≤ m) {x4 : Int32} {S : md_S} {q : (Int32 × md_S)} (hq : mo_isAlike_j189 N x4 S = some q) : mv_rq l G mX13_isAlike (d + 3) 189 [none, none, none, none, some (.int x4), none, none, none, none, none] [] (md_H G B m S) (md_Q G B m q) := by
  unfold mo_isAlike_j189 at hq
  refine q_iload dX13_isAlike_189 rfl ?_
  obtain ⟨g191, hq⟩ := md_g hq
  obtain rfl := Option.some.inj hq
  exact q_iret (ty := .boolean) dX13_isAlike_191 rfl (md_bnar g191) ⟨rfl, rfl⟩
def mo_isAlike_l19 (N : Nat) : Nat → Nat → Int32 → Int32 → Int32 → Int32 → Int32 → Int32 → md_S → Option (Int32 × md_S)
  | 0, _, _, _, _, _, _, _, _ => none
  | n + 1, ph, x3, x4, x5, x6, x7, x8, S =>
    if ph = 0 then
    if x3 ≤ 0 then
      mo_isAlike_j189 N x4 S
    else
      if x4 = 0 then
        mo_isAlike_j189 N x4 S
      else
        if md_in (x3 + (-1)) 200 then
        if md_in (x3 + (-1)) 200 then
        md_b (mo_isLeafAlike N (S.2 80 (x3 + (-1)).toNatClampNeg) (S.2 81 (x3 + (-1)).toNatClampNeg) S) fun v52 S52 =>
        if v52 = 0 then
          mo_isAlike_l19 N n 1 (x3 + (-1)) 0 (S.2 80 (x3 + (-1)).toNatClampNeg) (S.2 81 (x3 + (-1)).toNatClampNeg) 0 (-1) S52
        else
          md_b (mo_children N (S.2 80 (x3 + (-1)).toNatClampNeg) S52) fun v61 S61 =>
          md_b (mo_children N (S.2 81 (x3 + (-1)).toNatClampNeg) S61) fun v67 S67 =>
          if v61 = v67 then
            md_b (mo_follower N (S.2 80 (x3 + (-1)).toNatClampNeg) (S.2 80 (x3 + (-1)).toNatClampNeg) S67) fun v93 S93 =>
            mo_isAlike_l19 N n 1 (x3 + (-1)) 1 (S.2 80 (x3 + (-1)).toNatClampNeg) (S.2 81 (x3 + (-1)).toNatClampNeg) 0 v93 S93
          else
            mo_isAlike_l19 N n 1 (x3 + (-1)) 0 (S.2 80 (x3 + (-1)).toNatClampNeg) (S.2 81 (x3 + (-1)).toNatClampNeg) 0 (-1) S67
        else none
        else none
    else
    if x8 = (-1) then
      mo_isAlike_l19 N n 0 x3 x4 0 0 0 0 S
    else
      md_b (mo_answer N x5 x8 x7 x6 S) fun v117 S117 =>
      if x4 = 0 then
        if md_in x3 200 then
        md_l (md_w S117 80 x3.toNatClampNeg x8) fun S147 =>
        if v117 = (-1) then
          if md_in x3 200 then
          md_l (md_w S147 81 x3.toNatClampNeg x8) fun S166 =>
          md_b (mo_follower N x5 x8 S166) fun v178 S178 =>
          mo_isAlike_l19 N n 1 (x3 + 1) 0 x5 x6 (x7 + 1) v178 S178
          else none
        else
          if md_in x3 200 then
          md_l (md_w S147 81 x3.toNatClampNeg v117) fun S166 =>
          md_b (mo_follower N x5 x8 S166) fun v178 S178 =>
          mo_isAlike_l19 N n 1 (x3 + 1) 0 x5 x6 (x7 + 1) v178 S178
          else none
        else none
      else
        if v117 = (-1) then
          if md_in x3 200 then
          md_l (md_w S117 80 x3.toNatClampNeg x8) fun S147 =>
          if v117 = (-1) then
            if md_in x3 200 then
            md_l (md_w S147 81 x3.toNatClampNeg x8) fun S166 =>
            md_b (mo_follower N x5 x8 S166) fun v178 S178 =>
            mo_isAlike_l19 N n 1 (x3 + 1) 0 x5 x6 (x7 + 1) v178 S178
            else none
          else
            if md_in x3 200 then
            md_l (md_w S147 81 x3.toNatClampNeg v117) fun S166 =>
            md_b (mo_follower N x5 x8 S166) fun v178 S178 =>
            mo_isAlike_l19 N n 1 (x3 + 1) 0 x5 x6 (x7 + 1) v178 S178
            else none
          else none
        else
          if md_in x3 200 then
          md_l (md_w S117 80 x3.toNatClampNeg x8) fun S147 =>
          if v117 = (-1) then
            if md_in x3 200 then
            md_l (md_w S147 81 x3.toNatClampNeg x8) fun S166 =>
            md_b (mo_follower N x5 x8 S166) fun v178 S178 =>
            mo_isAlike_l19 N n 1 (x3 + 1) 1 x5 x6 (x7 + 1) v178 S178
            else none
          else
            if md_in x3 200 then
            md_l (md_w S147 81 x3.toNatClampNeg v117) fun S166 =>
            md_b (mo_follower N x5 x8 S166) fun v178 S178 =>
            mo_isAlike_l19 N n 1 (x3 + 1) 1 x5 x6 (x7 + 1) v178 S178
            else none
          else none
theorem ro_isAlike_l19 {l : Launch} {G : mv_G} {B : mv_H} {m N d : Nat} (hG : mv_ok G) (hm : G.2.2.1 ≤ m) : ∀ n : Nat, (∀ {x3 : Int32} {x4 : Int32} {x5 : Int32} {x6 : Int32} {x7 : Int32} {x8 : Int32} {S : md_S} {q : (Int32 × md_S)}, mo_isAlike_l19 N n 0 x3 x4 x5 x6 x7 x8 S = some q → mv_rq l G mX13_isAlike (d + 3) 19 [some (.ref m), none, none, some (.int x3), some (.int x4), none, none, none, none, none] [] (md_H G B m S) (md_Q G B m q)) ∧ (∀ {x3 : Int32} {x4 : Int32} {x5 : Int32} {x6 : Int32} {x7 : Int32} {x8 : Int32} {S : md_S} {q : (Int32 × md_S)}, mo_isAlike_l19 N n 1 x3 x4 x5 x6 x7 x8 S = some q → mv_rq l G mX13_isAlike (d + 3) 102 [some (.ref m), none, none, some (.int x3), some (.int x4), some (.int x5), some (.int x6), some (.int x7), some (.int x8), none] [] (md_H G B m S) (md_Q G B m q))
  | 0 => ⟨(fun hq => nomatch hq), (fun hq => nomatch hq)⟩
  | n + 1 => by
    refine ⟨?_, ?_⟩
    ·
      intro x3 x4 x5 x6 x7 x8 S q hq
      rw [mo_isAlike_l19] at hq
      have hq := md_pos (by decide) hq
      refine q_iload_n dX13_isAlike_19 rfl ?_
      refine q_if_le (tgt := 189) dX13_isAlike_20 (by decide) (fun c20 => ?_) (fun c20 => ?_)
      ·
        have hq := md_pos c20 hq
        refine mv_weak (A := [none, none, none, none, some (.int x4), none, none, none, none, none]) (by repeat' constructor) ?_
        exact ro_isAlike_j189 hG hm hq
      ·
        have hq := md_neg c20 hq
        refine q_iload dX13_isAlike_23 rfl ?_
        refine q_if_eq (tgt := 189) dX13_isAlike_25 (by decide) (fun c25 => ?_) (fun c25 => ?_)
        ·
          have hq := md_pos c25 hq
          refine mv_weak (A := [none, none, none, none, some (.int x4), none, none, none, none, none]) (by repeat' constructor) ?_
          exact ro_isAlike_j189 hG hm hq
        ·
          have hq := md_neg c25 hq
          refine q_iinc dX13_isAlike_28 rfl rfl ?_
          show mv_rq l G mX13_isAlike (d + 3) 31 [some (.ref m), none, none, some (.int (x3 + (-1))), some (.int x4), none, none, none, none, none] [] (md_H G B m S) _
          refine q_aload_n dX13_isAlike_31 rfl ?_
          refine r_geta 80 dX13_isAlike_32 fl_RX13_181 (by decide) rfl kk_80 ?_
          refine q_iload_n dX13_isAlike_35 rfl ?_
          obtain ⟨g36, hq⟩ := md_g hq
          refine r_iald hG 80 dX13_isAlike_36 kk_80 g36 ?_
          refine q_istore dX13_isAlike_37 (Nat.le_of_ble_eq_true rfl) rfl ?_
          show mv_rq l G mX13_isAlike (d + 3) 39 [some (.ref m), none, none, some (.int (x3 + (-1))), some (.int x4), some (.int (S.2 80 (x3 + (-1)).toNatClampNeg)), none, none, none, none] [] (md_H G B m S) _
          refine q_aload_n dX13_isAlike_39 rfl ?_
          refine r_geta 81 dX13_isAlike_40 fl_RX13_184 (by decide) rfl kk_81 ?_
          refine q_iload_n dX13_isAlike_43 rfl ?_
          obtain ⟨g44, hq⟩ := md_g hq
          refine r_iald hG 81 dX13_isAlike_44 kk_81 g44 ?_
          refine q_istore dX13_isAlike_45 (Nat.le_of_ble_eq_true rfl) rfl ?_
          show mv_rq l G mX13_isAlike (d + 3) 47 [some (.ref m), none, none, some (.int (x3 + (-1))), some (.int x4), some (.int (S.2 80 (x3 + (-1)).toNatClampNeg)), some (.int (S.2 81 (x3 + (-1)).toNatClampNeg)), none, none, none] [] (md_H G B m S) _
          refine q_aload_n dX13_isAlike_47 rfl ?_
          refine q_iload dX13_isAlike_48 rfl ?_
          refine q_iload dX13_isAlike_50 rfl ?_
          obtain ⟨v52, S52, e52, hq⟩ := md_b_e hq
          refine q_cV (Y := mX13_isLeafAlike) (As := [.int (S.2 80 (x3 + (-1)).toNatClampNeg), .int (S.2 81 (x3 + (-1)).toNatClampNeg)]) (st := []) (b := m) (ci := 15) vc_X13_isLeafAlike dX13_isAlike_52 ml_RX13_478 rfl md_obj rfl (Nat.le_of_ble_eq_true rfl) rfl (Nat.le_of_ble_eq_true rfl) (ro_isLeafAlike (d := d) hG hm e52) (fun v h1 hq1 => ?_) (fun E h1 hq1 => md_nQ hq1)
          obtain ⟨hv, rfl⟩ := hq1
          cases hv
          show mv_rq l G mX13_isAlike (d + 3) 55 [some (.ref m), none, none, some (.int (x3 + (-1))), some (.int x4), some (.int (S.2 80 (x3 + (-1)).toNatClampNeg)), some (.int (S.2 81 (x3 + (-1)).toNatClampNeg)), none, none, none] [.int v52] (md_H G B m S52) _
          refine q_if_eq (tgt := 77) dX13_isAlike_55 (by decide) (fun c55 => ?_) (fun c55 => ?_)
          ·
            have hq := md_pos c55 hq
            refine q_iconst (v := 0) dX13_isAlike_77 (by decide) ?_
            refine q_istore dX13_isAlike_78 (Nat.le_of_ble_eq_true rfl) rfl ?_
            show mv_rq l G mX13_isAlike (d + 3) 80 [some (.ref m), none, none, some (.int (x3 + (-1))), some (.int 0), some (.int (S.2 80 (x3 + (-1)).toNatClampNeg)), some (.int (S.2 81 (x3 + (-1)).toNatClampNeg)), none, none, none] [] (md_H G B m S52) _
            refine q_iconst (v := 0) dX13_isAlike_80 (by decide) ?_
            refine q_istore dX13_isAlike_81 (Nat.le_of_ble_eq_true rfl) rfl ?_
            show mv_rq l G mX13_isAlike (d + 3) 83 [some (.ref m), none, none, some (.int (x3 + (-1))), some (.int 0), some (.int (S.2 80 (x3 + (-1)).toNatClampNeg)), some (.int (S.2 81 (x3 + (-1)).toNatClampNeg)), some (.int 0), none, none] [] (md_H G B m S52) _
            refine q_iload dX13_isAlike_83 rfl ?_
            refine q_if_eq (tgt := 99) dX13_isAlike_85 (by decide) (fun _ => ?_) (fun z => absurd z (by decide))
            refine q_iconst (v := (-1)) dX13_isAlike_99 (by decide) ?_
            refine q_istore dX13_isAlike_100 (Nat.le_of_ble_eq_true rfl) rfl ?_
            show mv_rq l G mX13_isAlike (d + 3) 102 [some (.ref m), none, none, some (.int (x3 + (-1))), some (.int 0), some (.int (S.2 80 (x3 + (-1)).toNatClampNeg)), some (.int (S.2 81 (x3 + (-1)).toNatClampNeg)), some (.int 0), some (.int (-1)), none] [] (md_H G B m S52) _
            refine mv_weak (A := [some (.ref m), none, none, some (.int (x3 + (-1))), some (.int 0), some (.int (S.2 80 (x3 + (-1)).toNatClampNeg)), some (.int (S.2 81 (x3 + (-1)).toNatClampNeg)), some (.int 0), some (.int (-1)), none]) (by repeat' constructor) ?_
            exact (ro_isAlike_l19 hG hm n).2 hq
          ·
            have hq := md_neg c55 hq
            refine q_aload_n dX13_isAlike_58 rfl ?_
            refine q_iload dX13_isAlike_59 rfl ?_
            obtain ⟨v61, S61, e61, hq⟩ := md_b_e hq
            refine q_cV (Y := mX13_children) (As := [.int (S.2 80 (x3 + (-1)).toNatClampNeg)]) (st := []) (b := m) (ci := 15) vc_X13_children dX13_isAlike_61 ml_RX13_428 rfl md_obj rfl (Nat.le_of_ble_eq_true rfl) rfl (Nat.le_of_ble_eq_true rfl) (ro_children (d := d + 2) hG hm e61) (fun v h1 hq1 => ?_) (fun E h1 hq1 => md_nQ hq1)
            obtain ⟨hv, rfl⟩ := hq1
            cases hv
            show mv_rq l G mX13_isAlike (d + 3) 64 [some (.ref m), none, none, some (.int (x3 + (-1))), some (.int x4), some (.int (S.2 80 (x3 + (-1)).toNatClampNeg)), some (.int (S.2 81 (x3 + (-1)).toNatClampNeg)), none, none, none] [.int v61] (md_H G B m S61) _
            refine q_aload_n dX13_isAlike_64 rfl ?_
            refine q_iload dX13_isAlike_65 rfl ?_
            obtain ⟨v67, S67, e67, hq⟩ := md_b_e hq
            refine q_cV (Y := mX13_children) (As := [.int (S.2 81 (x3 + (-1)).toNatClampNeg)]) (st := [.int v61]) (b := m) (ci := 15) vc_X13_children dX13_isAlike_67 ml_RX13_428 rfl md_obj rfl (Nat.le_of_ble_eq_true rfl) rfl (Nat.le_of_ble_eq_true rfl) (ro_children (d := d + 2) hG hm e67) (fun v h1 hq1 => ?_) (fun E h1 hq1 => md_nQ hq1)
            obtain ⟨hv, rfl⟩ := hq1
            cases hv
            show mv_rq l G mX13_isAlike (d + 3) 70 [some (.ref m), none, none, some (.int (x3 + (-1))), some (.int x4), some (.int (S.2 80 (x3 + (-1)).toNatClampNeg)), some (.int (S.2 81 (x3 + (-1)).toNatClampNeg)), none, none, none] [.int v67, .int v61] (md_H G B m S67) _
            refine q_icmp_ne (tgt := 77) dX13_isAlike_70 (by decide) (fun c70 => ?_) (fun c70 => ?_)
            ·
              have hq := md_neg c70 hq
              refine q_iconst (v := 0) dX13_isAlike_77 (by decide) ?_
              refine q_istore dX13_isAlike_78 (Nat.le_of_ble_eq_true rfl) rfl ?_
              show mv_rq l G mX13_isAlike (d + 3) 80 [some (.ref m), none, none, some (.int (x3 + (-1))), some (.int 0), some (.int (S.2 80 (x3 + (-1)).toNatClampNeg)), some (.int (S.2 81 (x3 + (-1)).toNatClampNeg)), none, none, none] [] (md_H G B m S67) _
              refine q_iconst (v := 0) dX13_isAlike_80 (by decide) ?_
              refine q_istore dX13_isAlike_81 (Nat.le_of_ble_eq_true rfl) rfl ?_
              show mv_rq l G mX13_isAlike (d + 3) 83 [some (.ref m), none, none, some (.int (x3 + (-1))), some (.int 0), some (.int (S.2 80 (x3 + (-1)).toNatClampNeg)), some (.int (S.2 81 (x3 + (-1)).toNatClampNeg)), some (.int 0), none, none] [] (md_H G B m S67) _
              refine q_iload dX13_isAlike_83 rfl ?_
              refine q_if_eq (tgt := 99) dX13_isAlike_85 (by decide) (fun _ => ?_) (fun z => absurd z (by decide))
              refine q_iconst (v := (-1)) dX13_isAlike_99 (by decide) ?_
              refine q_istore dX13_isAlike_100 (Nat.le_of_ble_eq_true rfl) rfl ?_
              show mv_rq l G mX13_isAlike (d + 3) 102 [some (.ref m), none, none, some (.int (x3 + (-1))), some (.int 0), some (.int (S.2 80 (x3 + (-1)).toNatClampNeg)), some (.int (S.2 81 (x3 + (-1)).toNatClampNeg)), some (.int 0), some (.int (-1)), none] [] (md_H G B m S67) _
              refine mv_weak (A := [some (.ref m), none, none, some (.int (x3 + (-1))), some (.int 0), some (.int (S.2 80 (x3 + (-1)).toNatClampNeg)), some (.int (S.2 81 (x3 + (-1)).toNatClampNeg)), some (.int 0), some (.int (-1)), none]) (by repeat' constructor) ?_
              exact (ro_isAlike_l19 hG hm n).2 hq
            ·
              have hq := md_pos c70 hq
              refine q_iconst (v := 1) dX13_isAlike_73 (by decide) ?_
              refine q_goto (tgt := 78) dX13_isAlike_74 (by decide) ?_
              refine q_istore dX13_isAlike_78 (Nat.le_of_ble_eq_true rfl) rfl ?_
              show mv_rq l G mX13_isAlike (d + 3) 80 [some (.ref m), none, none, some (.int (x3 + (-1))), some (.int 1), some (.int (S.2 80 (x3 + (-1)).toNatClampNeg)), some (.int (S.2 81 (x3 + (-1)).toNatClampNeg)), none, none, none] [] (md_H G B m S67) _
              refine q_iconst (v := 0) dX13_isAlike_80 (by decide) ?_
              refine q_istore dX13_isAlike_81 (Nat.le_of_ble_eq_true rfl) rfl ?_
              show mv_rq l G mX13_isAlike (d + 3) 83 [some (.ref m), none, none, some (.int (x3 + (-1))), some (.int 1), some (.int (S.2 80 (x3 + (-1)).toNatClampNeg)), some (.int (S.2 81 (x3 + (-1)).toNatClampNeg)), some (.int 0), none, none] [] (md_H G B m S67) _
              refine q_iload dX13_isAlike_83 rfl ?_
              refine q_if_eq (tgt := 99) dX13_isAlike_85 (by decide) (fun z => absurd z (by decide)) (fun _ => ?_)
              refine q_aload_n dX13_isAlike_88 rfl ?_
              refine q_iload dX13_isAlike_89 rfl ?_
              refine q_iload dX13_isAlike_91 rfl ?_
              obtain ⟨v93, S93, e93, hq⟩ := md_b_e hq
              refine q_cV (Y := mX13_follower) (As := [.int (S.2 80 (x3 + (-1)).toNatClampNeg), .int (S.2 80 (x3 + (-1)).toNatClampNeg)]) (st := []) (b := m) (ci := 15) vc_X13_follower dX13_isAlike_93 ml_RX13_415 rfl md_obj rfl (Nat.le_of_ble_eq_true rfl) rfl (Nat.le_of_ble_eq_true rfl) (ro_follower (d := d + 2) hG hm e93) (fun v h1 hq1 => ?_) (fun E h1 hq1 => md_nQ hq1)
              obtain ⟨hv, rfl⟩ := hq1
              cases hv
              show mv_rq l G mX13_isAlike (d + 3) 96 [some (.ref m), none, none, some (.int (x3 + (-1))), some (.int 1), some (.int (S.2 80 (x3 + (-1)).toNatClampNeg)), some (.int (S.2 81 (x3 + (-1)).toNatClampNeg)), some (.int 0), none, none] [.int v93] (md_H G B m S93) _
              refine q_goto (tgt := 100) dX13_isAlike_96 (by decide) ?_
              refine q_istore dX13_isAlike_100 (Nat.le_of_ble_eq_true rfl) rfl ?_
              show mv_rq l G mX13_isAlike (d + 3) 102 [some (.ref m), none, none, some (.int (x3 + (-1))), some (.int 1), some (.int (S.2 80 (x3 + (-1)).toNatClampNeg)), some (.int (S.2 81 (x3 + (-1)).toNatClampNeg)), some (.int 0), some (.int v93), none] [] (md_H G B m S93) _
              refine mv_weak (A := [some (.ref m), none, none, some (.int (x3 + (-1))), some (.int 1), some (.int (S.2 80 (x3 + (-1)).toNatClampNeg)), some (.int (S.2 81 (x3 + (-1)).toNatClampNeg)), some (.int 0), some (.int v93), none]) (by repeat' constructor) ?_
              exact (ro_isAlike_l19 hG hm n).2 hq
    ·
      intro x3 x4 x5 x6 x7 x8 S q hq
      rw [mo_isAlike_l19] at hq
      have hq := md_neg (by decide) hq
      refine q_iload dX13_isAlike_102 rfl ?_
      refine q_iconst (v := (-1)) dX13_isAlike_104 (by decide) ?_
      refine q_icmp_eq (tgt := 186) dX13_isAlike_105 (by decide) (fun c105 => ?_) (fun c105 => ?_)
      ·
        have hq := md_pos c105 hq
        refine q_goto (tgt := 19) dX13_isAlike_186 (by decide) ?_
        refine mv_weak (A := [some (.ref m), none, none, some (.int x3), some (.int x4), none, none, none, none, none]) (by repeat' constructor) ?_
        exact (ro_isAlike_l19 hG hm n).1 hq
      ·
        have hq := md_neg c105 hq
        refine q_aload_n dX13_isAlike_108 rfl ?_
        refine q_iload dX13_isAlike_109 rfl ?_
        refine q_iload dX13_isAlike_111 rfl ?_
        refine q_iload dX13_isAlike_113 rfl ?_
        refine q_iload dX13_isAlike_115 rfl ?_
        obtain ⟨v117, S117, e117, hq⟩ := md_b_e hq
        refine q_cV (Y := mX13_answer) (As := [.int x5, .int x8, .int x7, .int x6]) (st := []) (b := m) (ci := 15) vc_X13_answer dX13_isAlike_117 ml_RX13_482 rfl md_obj rfl (Nat.le_of_ble_eq_true rfl) rfl (Nat.le_of_ble_eq_true rfl) (ro_answer (d := d) hG hm e117) (fun v h1 hq1 => ?_) (fun E h1 hq1 => md_nQ hq1)
        obtain ⟨hv, rfl⟩ := hq1
        cases hv
        show mv_rq l G mX13_isAlike (d + 3) 120 [some (.ref m), none, none, some (.int x3), some (.int x4), some (.int x5), some (.int x6), some (.int x7), some (.int x8), none] [.int v117] (md_H G B m S117) _
        refine q_istore dX13_isAlike_120 (Nat.le_of_ble_eq_true rfl) rfl ?_
        show mv_rq l G mX13_isAlike (d + 3) 122 [some (.ref m), none, none, some (.int x3), some (.int x4), some (.int x5), some (.int x6), some (.int x7), some (.int x8), some (.int v117)] [] (md_H G B m S117) _
        refine q_iload dX13_isAlike_122 rfl ?_
        refine q_if_eq (tgt := 137) dX13_isAlike_124 (by decide) (fun c124 => ?_) (fun c124 => ?_)
        ·
          have hq := md_pos c124 hq
          refine q_iconst (v := 0) dX13_isAlike_137 (by decide) ?_
          refine q_istore dX13_isAlike_138 (Nat.le_of_ble_eq_true rfl) rfl ?_
          show mv_rq l G mX13_isAlike (d + 3) 140 [some (.ref m), none, none, some (.int x3), some (.int 0), some (.int x5), some (.int x6), some (.int x7), some (.int x8), some (.int v117)] [] (md_H G B m S117) _
          refine q_aload_n dX13_isAlike_140 rfl ?_
          refine r_geta 80 dX13_isAlike_141 fl_RX13_181 (by decide) rfl kk_80 ?_
          refine q_iload_n dX13_isAlike_144 rfl ?_
          refine q_iload dX13_isAlike_145 rfl ?_
          obtain ⟨g147, hq⟩ := md_g hq
          refine r_iast hG hm 80 dX13_isAlike_147 kk_80 g147 (fun S147 e147 => ?_)
          have hq := md_l_e e147 hq
          clear e147
          show mv_rq l G mX13_isAlike (d + 3) 148 [some (.ref m), none, none, some (.int x3), some (.int 0), some (.int x5), some (.int x6), some (.int x7), some (.int x8), some (.int v117)] [] (md_H G B m S147) _
          refine q_aload_n dX13_isAlike_148 rfl ?_
          refine r_geta 81 dX13_isAlike_149 fl_RX13_184 (by decide) rfl kk_81 ?_
          refine q_iload_n dX13_isAlike_152 rfl ?_
          refine q_iload dX13_isAlike_153 rfl ?_
          refine q_iconst (v := (-1)) dX13_isAlike_155 (by decide) ?_
          refine q_icmp_ne (tgt := 164) dX13_isAlike_156 (by decide) (fun c156 => ?_) (fun c156 => ?_)
          ·
            have hq := md_neg c156 hq
            refine q_iload dX13_isAlike_164 rfl ?_
            obtain ⟨g166, hq⟩ := md_g hq
            refine r_iast hG hm 81 dX13_isAlike_166 kk_81 g166 (fun S166 e166 => ?_)
            have hq := md_l_e e166 hq
            clear e166
            show mv_rq l G mX13_isAlike (d + 3) 167 [some (.ref m), none, none, some (.int x3), some (.int 0), some (.int x5), some (.int x6), some (.int x7), some (.int x8), some (.int v117)] [] (md_H G B m S166) _
            refine q_iinc dX13_isAlike_167 rfl rfl ?_
            show mv_rq l G mX13_isAlike (d + 3) 170 [some (.ref m), none, none, some (.int (x3 + 1)), some (.int 0), some (.int x5), some (.int x6), some (.int x7), some (.int x8), some (.int v117)] [] (md_H G B m S166) _
            refine q_iinc dX13_isAlike_170 rfl rfl ?_
            show mv_rq l G mX13_isAlike (d + 3) 173 [some (.ref m), none, none, some (.int (x3 + 1)), some (.int 0), some (.int x5), some (.int x6), some (.int (x7 + 1)), some (.int x8), some (.int v117)] [] (md_H G B m S166) _
            refine q_aload_n dX13_isAlike_173 rfl ?_
            refine q_iload dX13_isAlike_174 rfl ?_
            refine q_iload dX13_isAlike_176 rfl ?_
            obtain ⟨v178, S178, e178, hq⟩ := md_b_e hq
            refine q_cV (Y := mX13_follower) (As := [.int x5, .int x8]) (st := []) (b := m) (ci := 15) vc_X13_follower dX13_isAlike_178 ml_RX13_415 rfl md_obj rfl (Nat.le_of_ble_eq_true rfl) rfl (Nat.le_of_ble_eq_true rfl) (ro_follower (d := d + 2) hG hm e178) (fun v h1 hq1 => ?_) (fun E h1 hq1 => md_nQ hq1)
            obtain ⟨hv, rfl⟩ := hq1
            cases hv
            show mv_rq l G mX13_isAlike (d + 3) 181 [some (.ref m), none, none, some (.int (x3 + 1)), some (.int 0), some (.int x5), some (.int x6), some (.int (x7 + 1)), some (.int x8), some (.int v117)] [.int v178] (md_H G B m S178) _
            refine q_istore dX13_isAlike_181 (Nat.le_of_ble_eq_true rfl) rfl ?_
            show mv_rq l G mX13_isAlike (d + 3) 183 [some (.ref m), none, none, some (.int (x3 + 1)), some (.int 0), some (.int x5), some (.int x6), some (.int (x7 + 1)), some (.int v178), some (.int v117)] [] (md_H G B m S178) _
            refine q_goto (tgt := 102) dX13_isAlike_183 (by decide) ?_
            refine mv_weak (A := [some (.ref m), none, none, some (.int (x3 + 1)), some (.int 0), some (.int x5), some (.int x6), some (.int (x7 + 1)), some (.int v178), none]) (by repeat' constructor) ?_
            exact (ro_isAlike_l19 hG hm n).2 hq
          ·
            have hq := md_pos c156 hq
            refine q_iload dX13_isAlike_159 rfl ?_
            refine q_goto (tgt := 166) dX13_isAlike_161 (by decide) ?_
            obtain ⟨g166, hq⟩ := md_g hq
            refine r_iast hG hm 81 dX13_isAlike_166 kk_81 g166 (fun S166 e166 => ?_)
            have hq := md_l_e e166 hq
            clear e166
            show mv_rq l G mX13_isAlike (d + 3) 167 [some (.ref m), none, none, some (.int x3), some (.int 0), some (.int x5), some (.int x6), some (.int x7), some (.int x8), some (.int v117)] [] (md_H G B m S166) _
            refine q_iinc dX13_isAlike_167 rfl rfl ?_
            show mv_rq l G mX13_isAlike (d + 3) 170 [some (.ref m), none, none, some (.int (x3 + 1)), some (.int 0), some (.int x5), some (.int x6), some (.int x7), some (.int x8), some (.int v117)] [] (md_H G B m S166) _
            refine q_iinc dX13_isAlike_170 rfl rfl ?_
            show mv_rq l G mX13_isAlike (d + 3) 173 [some (.ref m), none, none, some (.int (x3 + 1)), some (.int 0), some (.int x5), some (.int x6), some (.int (x7 + 1)), some (.int x8), some (.int v117)] [] (md_H G B m S166) _
            refine q_aload_n dX13_isAlike_173 rfl ?_
            refine q_iload dX13_isAlike_174 rfl ?_
            refine q_iload dX13_isAlike_176 rfl ?_
            obtain ⟨v178, S178, e178, hq⟩ := md_b_e hq
            refine q_cV (Y := mX13_follower) (As := [.int x5, .int x8]) (st := []) (b := m) (ci := 15) vc_X13_follower dX13_isAlike_178 ml_RX13_415 rfl md_obj rfl (Nat.le_of_ble_eq_true rfl) rfl (Nat.le_of_ble_eq_true rfl) (ro_follower (d := d + 2) hG hm e178) (fun v h1 hq1 => ?_) (fun E h1 hq1 => md_nQ hq1)
            obtain ⟨hv, rfl⟩ := hq1
            cases hv
            show mv_rq l G mX13_isAlike (d + 3) 181 [some (.ref m), none, none, some (.int (x3 + 1)), some (.int 0), some (.int x5), some (.int x6), some (.int (x7 + 1)), some (.int x8), some (.int v117)] [.int v178] (md_H G B m S178) _
            refine q_istore dX13_isAlike_181 (Nat.le_of_ble_eq_true rfl) rfl ?_
            show mv_rq l G mX13_isAlike (d + 3) 183 [some (.ref m), none, none, some (.int (x3 + 1)), some (.int 0), some (.int x5), some (.int x6), some (.int (x7 + 1)), some (.int v178), some (.int v117)] [] (md_H G B m S178) _
            refine q_goto (tgt := 102) dX13_isAlike_183 (by decide) ?_
            refine mv_weak (A := [some (.ref m), none, none, some (.int (x3 + 1)), some (.int 0), some (.int x5), some (.int x6), some (.int (x7 + 1)), some (.int v178), none]) (by repeat' constructor) ?_
            exact (ro_isAlike_l19 hG hm n).2 hq
        ·
          have hq := md_neg c124 hq
          refine q_iload dX13_isAlike_127 rfl ?_
          refine q_iconst (v := (-1)) dX13_isAlike_129 (by decide) ?_
          refine q_icmp_eq (tgt := 137) dX13_isAlike_130 (by decide) (fun c130 => ?_) (fun c130 => ?_)
          ·
            have hq := md_pos c130 hq
            refine q_iconst (v := 0) dX13_isAlike_137 (by decide) ?_
            refine q_istore dX13_isAlike_138 (Nat.le_of_ble_eq_true rfl) rfl ?_
            show mv_rq l G mX13_isAlike (d + 3) 140 [some (.ref m), none, none, some (.int x3), some (.int 0), some (.int x5), some (.int x6), some (.int x7), some (.int x8), some (.int v117)] [] (md_H G B m S117) _
            refine q_aload_n dX13_isAlike_140 rfl ?_
            refine r_geta 80 dX13_isAlike_141 fl_RX13_181 (by decide) rfl kk_80 ?_
            refine q_iload_n dX13_isAlike_144 rfl ?_
            refine q_iload dX13_isAlike_145 rfl ?_
            obtain ⟨g147, hq⟩ := md_g hq
            refine r_iast hG hm 80 dX13_isAlike_147 kk_80 g147 (fun S147 e147 => ?_)
            have hq := md_l_e e147 hq
            clear e147
            show mv_rq l G mX13_isAlike (d + 3) 148 [some (.ref m), none, none, some (.int x3), some (.int 0), some (.int x5), some (.int x6), some (.int x7), some (.int x8), some (.int v117)] [] (md_H G B m S147) _
            refine q_aload_n dX13_isAlike_148 rfl ?_
            refine r_geta 81 dX13_isAlike_149 fl_RX13_184 (by decide) rfl kk_81 ?_
            refine q_iload_n dX13_isAlike_152 rfl ?_
            refine q_iload dX13_isAlike_153 rfl ?_
            refine q_iconst (v := (-1)) dX13_isAlike_155 (by decide) ?_
            refine q_icmp_ne (tgt := 164) dX13_isAlike_156 (by decide) (fun c156 => ?_) (fun c156 => ?_)
            ·
              have hq := md_neg c156 hq
              refine q_iload dX13_isAlike_164 rfl ?_
              obtain ⟨g166, hq⟩ := md_g hq
              refine r_iast hG hm 81 dX13_isAlike_166 kk_81 g166 (fun S166 e166 => ?_)
              have hq := md_l_e e166 hq
              clear e166
              show mv_rq l G mX13_isAlike (d + 3) 167 [some (.ref m), none, none, some (.int x3), some (.int 0), some (.int x5), some (.int x6), some (.int x7), some (.int x8), some (.int v117)] [] (md_H G B m S166) _
              refine q_iinc dX13_isAlike_167 rfl rfl ?_
              show mv_rq l G mX13_isAlike (d + 3) 170 [some (.ref m), none, none, some (.int (x3 + 1)), some (.int 0), some (.int x5), some (.int x6), some (.int x7), some (.int x8), some (.int v117)] [] (md_H G B m S166) _
              refine q_iinc dX13_isAlike_170 rfl rfl ?_
              show mv_rq l G mX13_isAlike (d + 3) 173 [some (.ref m), none, none, some (.int (x3 + 1)), some (.int 0), some (.int x5), some (.int x6), some (.int (x7 + 1)), some (.int x8), some (.int v117)] [] (md_H G B m S166) _
              refine q_aload_n dX13_isAlike_173 rfl ?_
              refine q_iload dX13_isAlike_174 rfl ?_
              refine q_iload dX13_isAlike_176 rfl ?_
              obtain ⟨v178, S178, e178, hq⟩ := md_b_e hq
              refine q_cV (Y := mX13_follower) (As := [.int x5, .int x8]) (st := []) (b := m) (ci := 15) vc_X13_follower dX13_isAlike_178 ml_RX13_415 rfl md_obj rfl (Nat.le_of_ble_eq_true rfl) rfl (Nat.le_of_ble_eq_true rfl) (ro_follower (d := d + 2) hG hm e178) (fun v h1 hq1 => ?_) (fun E h1 hq1 => md_nQ hq1)
              obtain ⟨hv, rfl⟩ := hq1
              cases hv
              show mv_rq l G mX13_isAlike (d + 3) 181 [some (.ref m), none, none, some (.int (x3 + 1)), some (.int 0), some (.int x5), some (.int x6), some (.int (x7 + 1)), some (.int x8), some (.int v117)] [.int v178] (md_H G B m S178) _
              refine q_istore dX13_isAlike_181 (Nat.le_of_ble_eq_true rfl) rfl ?_
              show mv_rq l G mX13_isAlike (d + 3) 183 [some (.ref m), none, none, some (.int (x3 + 1)), some (.int 0), some (.int x5), some (.int x6), some (.int (x7 + 1)), some (.int v178), some (.int v117)] [] (md_H G B m S178) _
              refine q_goto (tgt := 102) dX13_isAlike_183 (by decide) ?_
              refine mv_weak (A := [some (.ref m), none, none, some (.int (x3 + 1)), some (.int 0), some (.int x5), some (.int x6), some (.int (x7 + 1)), some (.int v178), none]) (by repeat' constructor) ?_
              exact (ro_isAlike_l19 hG hm n).2 hq
            ·
              have hq := md_pos c156 hq
              refine q_iload dX13_isAlike_159 rfl ?_
              refine q_goto (tgt := 166) dX13_isAlike_161 (by decide) ?_
              obtain ⟨g166, hq⟩ := md_g hq
              refine r_iast hG hm 81 dX13_isAlike_166 kk_81 g166 (fun S166 e166 => ?_)
              have hq := md_l_e e166 hq
              clear e166
              show mv_rq l G mX13_isAlike (d + 3) 167 [some (.ref m), none, none, some (.int x3), some (.int 0), some (.int x5), some (.int x6), some (.int x7), some (.int x8), some (.int v117)] [] (md_H G B m S166) _
              refine q_iinc dX13_isAlike_167 rfl rfl ?_
              show mv_rq l G mX13_isAlike (d + 3) 170 [some (.ref m), none, none, some (.int (x3 + 1)), some (.int 0), some (.int x5), some (.int x6), some (.int x7), some (.int x8), some (.int v117)] [] (md_H G B m S166) _
              refine q_iinc dX13_isAlike_170 rfl rfl ?_
              show mv_rq l G mX13_isAlike (d + 3) 173 [some (.ref m), none, none, some (.int (x3 + 1)), some (.int 0), some (.int x5), some (.int x6), some (.int (x7 + 1)), some (.int x8), some (.int v117)] [] (md_H G B m S166) _
              refine q_aload_n dX13_isAlike_173 rfl ?_
              refine q_iload dX13_isAlike_174 rfl ?_
              refine q_iload dX13_isAlike_176 rfl ?_
              obtain ⟨v178, S178, e178, hq⟩ := md_b_e hq
              refine q_cV (Y := mX13_follower) (As := [.int x5, .int x8]) (st := []) (b := m) (ci := 15) vc_X13_follower dX13_isAlike_178 ml_RX13_415 rfl md_obj rfl (Nat.le_of_ble_eq_true rfl) rfl (Nat.le_of_ble_eq_true rfl) (ro_follower (d := d + 2) hG hm e178) (fun v h1 hq1 => ?_) (fun E h1 hq1 => md_nQ hq1)
              obtain ⟨hv, rfl⟩ := hq1
              cases hv
              show mv_rq l G mX13_isAlike (d + 3) 181 [some (.ref m), none, none, some (.int (x3 + 1)), some (.int 0), some (.int x5), some (.int x6), some (.int (x7 + 1)), some (.int x8), some (.int v117)] [.int v178] (md_H G B m S178) _
              refine q_istore dX13_isAlike_181 (Nat.le_of_ble_eq_true rfl) rfl ?_
              show mv_rq l G mX13_isAlike (d + 3) 183 [some (.ref m), none, none, some (.int (x3 + 1)), some (.int 0), some (.int x5), some (.int x6), some (.int (x7 + 1)), some (.int v178), some (.int v117)] [] (md_H G B m S178) _
              refine q_goto (tgt := 102) dX13_isAlike_183 (by decide) ?_
              refine mv_weak (A := [some (.ref m), none, none, some (.int (x3 + 1)), some (.int 0), some (.int x5), some (.int x6), some (.int (x7 + 1)), some (.int v178), none]) (by repeat' constructor) ?_
              exact (ro_isAlike_l19 hG hm n).2 hq
          ·
            have hq := md_neg c130 hq
            refine q_iconst (v := 1) dX13_isAlike_133 (by decide) ?_
            refine q_goto (tgt := 138) dX13_isAlike_134 (by decide) ?_
            refine q_istore dX13_isAlike_138 (Nat.le_of_ble_eq_true rfl) rfl ?_
            show mv_rq l G mX13_isAlike (d + 3) 140 [some (.ref m), none, none, some (.int x3), some (.int 1), some (.int x5), some (.int x6), some (.int x7), some (.int x8), some (.int v117)] [] (md_H G B m S117) _
            refine q_aload_n dX13_isAlike_140 rfl ?_
            refine r_geta 80 dX13_isAlike_141 fl_RX13_181 (by decide) rfl kk_80 ?_
            refine q_iload_n dX13_isAlike_144 rfl ?_
            refine q_iload dX13_isAlike_145 rfl ?_
            obtain ⟨g147, hq⟩ := md_g hq
            refine r_iast hG hm 80 dX13_isAlike_147 kk_80 g147 (fun S147 e147 => ?_)
            have hq := md_l_e e147 hq
            clear e147
            show mv_rq l G mX13_isAlike (d + 3) 148 [some (.ref m), none, none, some (.int x3), some (.int 1), some (.int x5), some (.int x6), some (.int x7), some (.int x8), some (.int v117)] [] (md_H G B m S147) _
            refine q_aload_n dX13_isAlike_148 rfl ?_
            refine r_geta 81 dX13_isAlike_149 fl_RX13_184 (by decide) rfl kk_81 ?_
            refine q_iload_n dX13_isAlike_152 rfl ?_
            refine q_iload dX13_isAlike_153 rfl ?_
            refine q_iconst (v := (-1)) dX13_isAlike_155 (by decide) ?_
            refine q_icmp_ne (tgt := 164) dX13_isAlike_156 (by decide) (fun c156 => ?_) (fun c156 => ?_)
            ·
              have hq := md_neg c156 hq
              refine q_iload dX13_isAlike_164 rfl ?_
              obtain ⟨g166, hq⟩ := md_g hq
              refine r_iast hG hm 81 dX13_isAlike_166 kk_81 g166 (fun S166 e166 => ?_)
              have hq := md_l_e e166 hq
              clear e166
              show mv_rq l G mX13_isAlike (d + 3) 167 [some (.ref m), none, none, some (.int x3), some (.int 1), some (.int x5), some (.int x6), some (.int x7), some (.int x8), some (.int v117)] [] (md_H G B m S166) _
              refine q_iinc dX13_isAlike_167 rfl rfl ?_
              show mv_rq l G mX13_isAlike (d + 3) 170 [some (.ref m), none, none, some (.int (x3 + 1)), some (.int 1), some (.int x5), some (.int x6), some (.int x7), some (.int x8), some (.int v117)] [] (md_H G B m S166) _
              refine q_iinc dX13_isAlike_170 rfl rfl ?_
              show mv_rq l G mX13_isAlike (d + 3) 173 [some (.ref m), none, none, some (.int (x3 + 1)), some (.int 1), some (.int x5), some (.int x6), some (.int (x7 + 1)), some (.int x8), some (.int v117)] [] (md_H G B m S166) _
              refine q_aload_n dX13_isAlike_173 rfl ?_
              refine q_iload dX13_isAlike_174 rfl ?_
              refine q_iload dX13_isAlike_176 rfl ?_
              obtain ⟨v178, S178, e178, hq⟩ := md_b_e hq
              refine q_cV (Y := mX13_follower) (As := [.int x5, .int x8]) (st := []) (b := m) (ci := 15) vc_X13_follower dX13_isAlike_178 ml_RX13_415 rfl md_obj rfl (Nat.le_of_ble_eq_true rfl) rfl (Nat.le_of_ble_eq_true rfl) (ro_follower (d := d + 2) hG hm e178) (fun v h1 hq1 => ?_) (fun E h1 hq1 => md_nQ hq1)
              obtain ⟨hv, rfl⟩ := hq1
              cases hv
              show mv_rq l G mX13_isAlike (d + 3) 181 [some (.ref m), none, none, some (.int (x3 + 1)), some (.int 1), some (.int x5), some (.int x6), some (.int (x7 + 1)), some (.int x8), some (.int v117)] [.int v178] (md_H G B m S178) _
              refine q_istore dX13_isAlike_181 (Nat.le_of_ble_eq_true rfl) rfl ?_
              show mv_rq l G mX13_isAlike (d + 3) 183 [some (.ref m), none, none, some (.int (x3 + 1)), some (.int 1), some (.int x5), some (.int x6), some (.int (x7 + 1)), some (.int v178), some (.int v117)] [] (md_H G B m S178) _
              refine q_goto (tgt := 102) dX13_isAlike_183 (by decide) ?_
              refine mv_weak (A := [some (.ref m), none, none, some (.int (x3 + 1)), some (.int 1), some (.int x5), some (.int x6), some (.int (x7 + 1)), some (.int v178), none]) (by repeat' constructor) ?_
              exact (ro_isAlike_l19 hG hm n).2 hq
            ·
              have hq := md_pos c156 hq
              refine q_iload dX13_isAlike_159 rfl ?_
              refine q_goto (tgt := 166) dX13_isAlike_161 (by decide) ?_
              obtain ⟨g166, hq⟩ := md_g hq
              refine r_iast hG hm 81 dX13_isAlike_166 kk_81 g166 (fun S166 e166 => ?_)
              have hq := md_l_e e166 hq
              clear e166
              show mv_rq l G mX13_isAlike (d + 3) 167 [some (.ref m), none, none, some (.int x3), some (.int 1), some (.int x5), some (.int x6), some (.int x7), some (.int x8), some (.int v117)] [] (md_H G B m S166) _
              refine q_iinc dX13_isAlike_167 rfl rfl ?_
              show mv_rq l G mX13_isAlike (d + 3) 170 [some (.ref m), none, none, some (.int (x3 + 1)), some (.int 1), some (.int x5), some (.int x6), some (.int x7), some (.int x8), some (.int v117)] [] (md_H G B m S166) _
              refine q_iinc dX13_isAlike_170 rfl rfl ?_
              show mv_rq l G mX13_isAlike (d + 3) 173 [some (.ref m), none, none, some (.int (x3 + 1)), some (.int 1), some (.int x5), some (.int x6), some (.int (x7 + 1)), some (.int x8), some (.int v117)] [] (md_H G B m S166) _
              refine q_aload_n dX13_isAlike_173 rfl ?_
              refine q_iload dX13_isAlike_174 rfl ?_
              refine q_iload dX13_isAlike_176 rfl ?_
              obtain ⟨v178, S178, e178, hq⟩ := md_b_e hq
              refine q_cV (Y := mX13_follower) (As := [.int x5, .int x8]) (st := []) (b := m) (ci := 15) vc_X13_follower dX13_isAlike_178 ml_RX13_415 rfl md_obj rfl (Nat.le_of_ble_eq_true rfl) rfl (Nat.le_of_ble_eq_true rfl) (ro_follower (d := d + 2) hG hm e178) (fun v h1 hq1 => ?_) (fun E h1 hq1 => md_nQ hq1)
              obtain ⟨hv, rfl⟩ := hq1
              cases hv
              show mv_rq l G mX13_isAlike (d + 3) 181 [some (.ref m), none, none, some (.int (x3 + 1)), some (.int 1), some (.int x5), some (.int x6), some (.int (x7 + 1)), some (.int x8), some (.int v117)] [.int v178] (md_H G B m S178) _
              refine q_istore dX13_isAlike_181 (Nat.le_of_ble_eq_true rfl) rfl ?_
              show mv_rq l G mX13_isAlike (d + 3) 183 [some (.ref m), none, none, some (.int (x3 + 1)), some (.int 1), some (.int x5), some (.int x6), some (.int (x7 + 1)), some (.int v178), some (.int v117)] [] (md_H G B m S178) _
              refine q_goto (tgt := 102) dX13_isAlike_183 (by decide) ?_
              refine mv_weak (A := [some (.ref m), none, none, some (.int (x3 + 1)), some (.int 1), some (.int x5), some (.int x6), some (.int (x7 + 1)), some (.int v178), none]) (by repeat' constructor) ?_
              exact (ro_isAlike_l19 hG hm n).2 hq
def mo_isAlike (N : Nat) (x1 : Int32) (x2 : Int32) (S : md_S) : Option (Int32 × md_S) :=
  if md_in 0 200 then
  md_l (md_w S 80 (0 : Int32).toNatClampNeg x1) fun S11 =>
  if md_in 0 200 then
  md_l (md_w S11 81 (0 : Int32).toNatClampNeg x2) fun S18 =>
  mo_isAlike_l19 N N 0 1 1 0 0 0 0 S18
  else none
  else none
theorem ro_isAlike {l : Launch} {G : mv_G} {B : mv_H} {m N d : Nat} (hG : mv_ok G) (hm : G.2.2.1 ≤ m) {x1 : Int32} {x2 : Int32} {S : md_S} {q : (Int32 × md_S)} (hq : mo_isAlike N x1 x2 S = some q) : mv_rq l G mX13_isAlike (d + 3) 0 (mv_in [.ref m, .int x1, .int x2] 10) [] (md_H G B m S) (md_Q G B m q) := by
  unfold mo_isAlike at hq
  show mv_rq l G mX13_isAlike (d + 3) 0 [some (.ref m), some (.int x1), some (.int x2), none, none, none, none, none, none, none] [] (md_H G B m S) _
  refine q_iconst (v := 1) dX13_isAlike_0 (by decide) ?_
  refine q_istore_n dX13_isAlike_1 (Nat.le_of_ble_eq_true rfl) rfl ?_
  show mv_rq l G mX13_isAlike (d + 3) 2 [some (.ref m), some (.int x1), some (.int x2), some (.int 1), none, none, none, none, none, none] [] (md_H G B m S) _
  refine q_iconst (v := 1) dX13_isAlike_2 (by decide) ?_
  refine q_istore dX13_isAlike_3 (Nat.le_of_ble_eq_true rfl) rfl ?_
  show mv_rq l G mX13_isAlike (d + 3) 5 [some (.ref m), some (.int x1), some (.int x2), some (.int 1), some (.int 1), none, none, none, none, none] [] (md_H G B m S) _
  refine q_aload_n dX13_isAlike_5 rfl ?_
  refine r_geta 80 dX13_isAlike_6 fl_RX13_181 (by decide) rfl kk_80 ?_
  refine q_iconst (v := 0) dX13_isAlike_9 (by decide) ?_
  refine q_iload_n dX13_isAlike_10 rfl ?_
  obtain ⟨g11, hq⟩ := md_g hq
  refine r_iast hG hm 80 dX13_isAlike_11 kk_80 g11 (fun S11 e11 => ?_)
  have hq := md_l_e e11 hq
  clear e11
  show mv_rq l G mX13_isAlike (d + 3) 12 [some (.ref m), some (.int x1), some (.int x2), some (.int 1), some (.int 1), none, none, none, none, none] [] (md_H G B m S11) _
  refine q_aload_n dX13_isAlike_12 rfl ?_
  refine r_geta 81 dX13_isAlike_13 fl_RX13_184 (by decide) rfl kk_81 ?_
  refine q_iconst (v := 0) dX13_isAlike_16 (by decide) ?_
  refine q_iload_n dX13_isAlike_17 rfl ?_
  obtain ⟨g18, hq⟩ := md_g hq
  refine r_iast hG hm 81 dX13_isAlike_18 kk_81 g18 (fun S18 e18 => ?_)
  have hq := md_l_e e18 hq
  clear e18
  show mv_rq l G mX13_isAlike (d + 3) 19 [some (.ref m), some (.int x1), some (.int x2), some (.int 1), some (.int 1), none, none, none, none, none] [] (md_H G B m S18) _
  refine mv_weak (A := [some (.ref m), none, none, some (.int 1), some (.int 1), none, none, none, none, none]) (by repeat' constructor) ?_
  exact (ro_isAlike_l19 hG hm N).1 hq
def mo_isEqual_j44 (N : Nat) (y0 : Int32) (S : md_S) : Option (Int32 × md_S) :=
  if md_bo y0 then
  some (y0, S)
  else none
theorem ro_isEqual_j44 {l : Launch} {G : mv_G} {B : mv_H} {m N d : Nat} (hG : mv_ok G) (hm : G.2.2.1 ≤ m) {y0 : Int32} {S : md_S} {q : (Int32 × md_S)} (hq : mo_isEqual_j44 N y0 S = some q) : mv_rq l G mX13_isEqual (d + 4) 44 [none, none, none, none] [.int y0] (md_H G B m S) (md_Q G B m q) := by
  unfold mo_isEqual_j44 at hq
  obtain ⟨g44, hq⟩ := md_g hq
  obtain rfl := Option.some.inj hq
  exact q_iret (ty := .boolean) dX13_isEqual_44 rfl (md_bnar g44) ⟨rfl, rfl⟩
def mo_isEqual_j86 (N : Nat) (y0 : Int32) (S : md_S) : Option (Int32 × md_S) :=
  if md_bo y0 then
  some (y0, S)
  else none
theorem ro_isEqual_j86 {l : Launch} {G : mv_G} {B : mv_H} {m N d : Nat} (hG : mv_ok G) (hm : G.2.2.1 ≤ m) {y0 : Int32} {S : md_S} {q : (Int32 × md_S)} (hq : mo_isEqual_j86 N y0 S = some q) : mv_rq l G mX13_isEqual (d + 4) 86 [none, none, none, none] [.int y0] (md_H G B m S) (md_Q G B m q) := by
  unfold mo_isEqual_j86 at hq
  obtain ⟨g86, hq⟩ := md_g hq
  obtain rfl := Option.some.inj hq
  exact q_iret (ty := .boolean) dX13_isEqual_86 rfl (md_bnar g86) ⟨rfl, rfl⟩
def mo_isEqual_j122 (N : Nat) (y0 : Int32) (S : md_S) : Option (Int32 × md_S) :=
  if md_bo y0 then
  some (y0, S)
  else none
theorem ro_isEqual_j122 {l : Launch} {G : mv_G} {B : mv_H} {m N d : Nat} (hG : mv_ok G) (hm : G.2.2.1 ≤ m) {y0 : Int32} {S : md_S} {q : (Int32 × md_S)} (hq : mo_isEqual_j122 N y0 S = some q) : mv_rq l G mX13_isEqual (d + 4) 122 [none, none, none, none] [.int y0] (md_H G B m S) (md_Q G B m q) := by
  unfold mo_isEqual_j122 at hq
  obtain ⟨g122, hq⟩ := md_g hq
  obtain rfl := Option.some.inj hq
  exact q_iret (ty := .boolean) dX13_isEqual_122 rfl (md_bnar g122) ⟨rfl, rfl⟩
def mo_isEqual_j117 (N : Nat) (S : md_S) : Option (Int32 × md_S) :=
  mo_isEqual_j122 N 1 S
theorem ro_isEqual_j117 {l : Launch} {G : mv_G} {B : mv_H} {m N d : Nat} (hG : mv_ok G) (hm : G.2.2.1 ≤ m) {S : md_S} {q : (Int32 × md_S)} (hq : mo_isEqual_j117 N  S = some q) : mv_rq l G mX13_isEqual (d + 4) 117 [none, none, none, none] [] (md_H G B m S) (md_Q G B m q) := by
  unfold mo_isEqual_j117 at hq
  refine q_iconst (v := 1) dX13_isEqual_117 (by decide) ?_
  refine q_goto (tgt := 122) dX13_isEqual_118 (by decide) ?_
  refine mv_weak (A := [none, none, none, none]) (by repeat' constructor) ?_
  exact ro_isEqual_j122 hG hm hq
def mo_isEqual_j98 (N : Nat) (x1 : Int32) (x2 : Int32) (S : md_S) : Option (Int32 × md_S) :=
  if md_in x1 100 then
  if md_in x2 100 then
  md_b (mo_isAlike N (S.2 78 x1.toNatClampNeg) (S.2 78 x2.toNatClampNeg) S) fun v111 S111 =>
  if v111 = 0 then
    mo_isEqual_j122 N 0 S111
  else
    mo_isEqual_j117 N  S111
  else none
  else none
theorem ro_isEqual_j98 {l : Launch} {G : mv_G} {B : mv_H} {m N d : Nat} (hG : mv_ok G) (hm : G.2.2.1 ≤ m) {x1 : Int32} {x2 : Int32} {S : md_S} {q : (Int32 × md_S)} (hq : mo_isEqual_j98 N x1 x2 S = some q) : mv_rq l G mX13_isEqual (d + 4) 98 [some (.ref m), some (.int x1), some (.int x2), none] [] (md_H G B m S) (md_Q G B m q) := by
  unfold mo_isEqual_j98 at hq
  refine q_aload_n dX13_isEqual_98 rfl ?_
  refine q_aload_n dX13_isEqual_99 rfl ?_
  refine r_geta 78 dX13_isEqual_100 fl_RX13_175 (by decide) rfl kk_78 ?_
  refine q_iload_n dX13_isEqual_103 rfl ?_
  obtain ⟨g104, hq⟩ := md_g hq
  refine r_iald hG 78 dX13_isEqual_104 kk_78 g104 ?_
  refine q_aload_n dX13_isEqual_105 rfl ?_
  refine r_geta 78 dX13_isEqual_106 fl_RX13_175 (by decide) rfl kk_78 ?_
  refine q_iload_n dX13_isEqual_109 rfl ?_
  obtain ⟨g110, hq⟩ := md_g hq
  refine r_iald hG 78 dX13_isEqual_110 kk_78 g110 ?_
  obtain ⟨v111, S111, e111, hq⟩ := md_b_e hq
  refine q_cV (Y := mX13_isAlike) (As := [.int (S.2 78 x1.toNatClampNeg), .int (S.2 78 x2.toNatClampNeg)]) (st := []) (b := m) (ci := 15) vc_X13_isAlike dX13_isEqual_111 ml_RX13_485 rfl md_obj rfl (Nat.le_of_ble_eq_true rfl) rfl (Nat.le_of_ble_eq_true rfl) (ro_isAlike (d := d) hG hm e111) (fun v h1 hq1 => ?_) (fun E h1 hq1 => md_nQ hq1)
  obtain ⟨hv, rfl⟩ := hq1
  cases hv
  show mv_rq l G mX13_isEqual (d + 4) 114 [some (.ref m), some (.int x1), some (.int x2), none] [.int v111] (md_H G B m S111) _
  refine q_if_eq (tgt := 121) dX13_isEqual_114 (by decide) (fun c114 => ?_) (fun c114 => ?_)
  ·
    have hq := md_pos c114 hq
    refine q_iconst (v := 0) dX13_isEqual_121 (by decide) ?_
    refine mv_weak (A := [none, none, none, none]) (by repeat' constructor) ?_
    exact ro_isEqual_j122 hG hm hq
  ·
    have hq := md_neg c114 hq
    refine mv_weak (A := [none, none, none, none]) (by repeat' constructor) ?_
    exact ro_isEqual_j117 hG hm hq
def mo_isEqual (N : Nat) (x1 : Int32) (x2 : Int32) (S : md_S) : Option (Int32 × md_S) :=
  if md_in x1 100 then
  if md_in x2 100 then
  if (S.2 77 x1.toNatClampNeg) = (S.2 77 x2.toNatClampNeg) then
    if (S.2 77 x1.toNatClampNeg) = 3 then
      if md_in x1 100 then
      if md_in x2 100 then
      if (S.2 78 x1.toNatClampNeg) = (S.2 78 x2.toNatClampNeg) then
        mo_isEqual_j44 N 1 S
      else
        mo_isEqual_j44 N 0 S
      else none
      else none
    else
      if (S.2 77 x1.toNatClampNeg) = 4 then
        if md_in x1 100 then
        if md_in x1 100 then
        if md_in x2 100 then
        if md_in x2 100 then
        md_b (mo_order N (S.2 78 x1.toNatClampNeg) (S.2 79 x1.toNatClampNeg) (S.2 78 x2.toNatClampNeg) (S.2 79 x2.toNatClampNeg) S) fun v75 S75 =>
        if v75 = 0 then
          mo_isEqual_j86 N 1 S75
        else
          mo_isEqual_j86 N 0 S75
        else none
        else none
        else none
        else none
      else
        if (S.2 77 x1.toNatClampNeg) = 5 then
          mo_isEqual_j98 N x1 x2 S
        else
          if (S.2 77 x1.toNatClampNeg) = 6 then
            mo_isEqual_j98 N x1 x2 S
          else
            mo_isEqual_j117 N  S
  else
    some (0, S)
  else none
  else none
theorem ro_isEqual {l : Launch} {G : mv_G} {B : mv_H} {m N d : Nat} (hG : mv_ok G) (hm : G.2.2.1 ≤ m) {x1 : Int32} {x2 : Int32} {S : md_S} {q : (Int32 × md_S)} (hq : mo_isEqual N x1 x2 S = some q) : mv_rq l G mX13_isEqual (d + 4) 0 (mv_in [.ref m, .int x1, .int x2] 4) [] (md_H G B m S) (md_Q G B m q) := by
  unfold mo_isEqual at hq
  show mv_rq l G mX13_isEqual (d + 4) 0 [some (.ref m), some (.int x1), some (.int x2), none] [] (md_H G B m S) _
  refine q_aload_n dX13_isEqual_0 rfl ?_
  refine r_geta 77 dX13_isEqual_1 fl_RX13_172 (by decide) rfl kk_77 ?_
  refine q_iload_n dX13_isEqual_4 rfl ?_
  obtain ⟨g5, hq⟩ := md_g hq
  refine r_iald hG 77 dX13_isEqual_5 kk_77 g5 ?_
  refine q_istore_n dX13_isEqual_6 (Nat.le_of_ble_eq_true rfl) rfl ?_
  show mv_rq l G mX13_isEqual (d + 4) 7 [some (.ref m), some (.int x1), some (.int x2), some (.int (S.2 77 x1.toNatClampNeg))] [] (md_H G B m S) _
  refine q_iload_n dX13_isEqual_7 rfl ?_
  refine q_aload_n dX13_isEqual_8 rfl ?_
  refine r_geta 77 dX13_isEqual_9 fl_RX13_172 (by decide) rfl kk_77 ?_
  refine q_iload_n dX13_isEqual_12 rfl ?_
  obtain ⟨g13, hq⟩ := md_g hq
  refine r_iald hG 77 dX13_isEqual_13 kk_77 g13 ?_
  refine q_icmp_eq (tgt := 19) dX13_isEqual_14 (by decide) (fun c14 => ?_) (fun c14 => ?_)
  ·
    have hq := md_pos c14 hq
    refine q_iload_n dX13_isEqual_19 rfl ?_
    refine q_iconst (v := 3) dX13_isEqual_20 (by decide) ?_
    refine q_icmp_ne (tgt := 45) dX13_isEqual_21 (by decide) (fun c21 => ?_) (fun c21 => ?_)
    ·
      have hq := md_neg c21 hq
      refine q_iload_n dX13_isEqual_45 rfl ?_
      refine q_iconst (v := 4) dX13_isEqual_46 (by decide) ?_
      refine q_icmp_ne (tgt := 87) dX13_isEqual_47 (by decide) (fun c47 => ?_) (fun c47 => ?_)
      ·
        have hq := md_neg c47 hq
        refine q_iload_n dX13_isEqual_87 rfl ?_
        refine q_iconst (v := 5) dX13_isEqual_88 (by decide) ?_
        refine q_icmp_eq (tgt := 98) dX13_isEqual_89 (by decide) (fun c89 => ?_) (fun c89 => ?_)
        ·
          have hq := md_pos c89 hq
          refine mv_weak (A := [some (.ref m), some (.int x1), some (.int x2), none]) (by repeat' constructor) ?_
          exact ro_isEqual_j98 hG hm hq
        ·
          have hq := md_neg c89 hq
          refine q_iload_n dX13_isEqual_92 rfl ?_
          refine q_bipush (v := 6) dX13_isEqual_93 (by decide) ?_
          refine q_icmp_ne (tgt := 117) dX13_isEqual_95 (by decide) (fun c95 => ?_) (fun c95 => ?_)
          ·
            have hq := md_neg c95 hq
            refine mv_weak (A := [none, none, none, none]) (by repeat' constructor) ?_
            exact ro_isEqual_j117 hG hm hq
          ·
            have hq := md_pos c95 hq
            refine mv_weak (A := [some (.ref m), some (.int x1), some (.int x2), none]) (by repeat' constructor) ?_
            exact ro_isEqual_j98 hG hm hq
      ·
        have hq := md_pos c47 hq
        refine q_aload_n dX13_isEqual_50 rfl ?_
        refine q_aload_n dX13_isEqual_51 rfl ?_
        refine r_geta 78 dX13_isEqual_52 fl_RX13_175 (by decide) rfl kk_78 ?_
        refine q_iload_n dX13_isEqual_55 rfl ?_
        obtain ⟨g56, hq⟩ := md_g hq
        refine r_iald hG 78 dX13_isEqual_56 kk_78 g56 ?_
        refine q_aload_n dX13_isEqual_57 rfl ?_
        refine r_geta 79 dX13_isEqual_58 fl_RX13_178 (by decide) rfl kk_79 ?_
        refine q_iload_n dX13_isEqual_61 rfl ?_
        obtain ⟨g62, hq⟩ := md_g hq
        refine r_iald hG 79 dX13_isEqual_62 kk_79 g62 ?_
        refine q_aload_n dX13_isEqual_63 rfl ?_
        refine r_geta 78 dX13_isEqual_64 fl_RX13_175 (by decide) rfl kk_78 ?_
        refine q_iload_n dX13_isEqual_67 rfl ?_
        obtain ⟨g68, hq⟩ := md_g hq
        refine r_iald hG 78 dX13_isEqual_68 kk_78 g68 ?_
        refine q_aload_n dX13_isEqual_69 rfl ?_
        refine r_geta 79 dX13_isEqual_70 fl_RX13_178 (by decide) rfl kk_79 ?_
        refine q_iload_n dX13_isEqual_73 rfl ?_
        obtain ⟨g74, hq⟩ := md_g hq
        refine r_iald hG 79 dX13_isEqual_74 kk_79 g74 ?_
        obtain ⟨v75, S75, e75, hq⟩ := md_b_e hq
        refine q_cV (Y := mX13_order) (As := [.int (S.2 78 x1.toNatClampNeg), .int (S.2 79 x1.toNatClampNeg), .int (S.2 78 x2.toNatClampNeg), .int (S.2 79 x2.toNatClampNeg)]) (st := []) (b := m) (ci := 15) vc_X13_order dX13_isEqual_75 ml_RX13_474 rfl md_obj rfl (Nat.le_of_ble_eq_true rfl) rfl (Nat.le_of_ble_eq_true rfl) (ro_order (d := d + 2) hG hm e75) (fun v h1 hq1 => ?_) (fun E h1 hq1 => md_nQ hq1)
        obtain ⟨hv, rfl⟩ := hq1
        cases hv
        show mv_rq l G mX13_isEqual (d + 4) 78 [some (.ref m), some (.int x1), some (.int x2), some (.int (S.2 77 x1.toNatClampNeg))] [.int v75] (md_H G B m S75) _
        refine q_if_ne (tgt := 85) dX13_isEqual_78 (by decide) (fun c78 => ?_) (fun c78 => ?_)
        ·
          have hq := md_neg c78 hq
          refine q_iconst (v := 0) dX13_isEqual_85 (by decide) ?_
          refine mv_weak (A := [none, none, none, none]) (by repeat' constructor) ?_
          exact ro_isEqual_j86 hG hm hq
        ·
          have hq := md_pos c78 hq
          refine q_iconst (v := 1) dX13_isEqual_81 (by decide) ?_
          refine q_goto (tgt := 86) dX13_isEqual_82 (by decide) ?_
          refine mv_weak (A := [none, none, none, none]) (by repeat' constructor) ?_
          exact ro_isEqual_j86 hG hm hq
    ·
      have hq := md_pos c21 hq
      refine q_aload_n dX13_isEqual_24 rfl ?_
      refine r_geta 78 dX13_isEqual_25 fl_RX13_175 (by decide) rfl kk_78 ?_
      refine q_iload_n dX13_isEqual_28 rfl ?_
      obtain ⟨g29, hq⟩ := md_g hq
      refine r_iald hG 78 dX13_isEqual_29 kk_78 g29 ?_
      refine q_aload_n dX13_isEqual_30 rfl ?_
      refine r_geta 78 dX13_isEqual_31 fl_RX13_175 (by decide) rfl kk_78 ?_
      refine q_iload_n dX13_isEqual_34 rfl ?_
      obtain ⟨g35, hq⟩ := md_g hq
      refine r_iald hG 78 dX13_isEqual_35 kk_78 g35 ?_
      refine q_icmp_ne (tgt := 43) dX13_isEqual_36 (by decide) (fun c36 => ?_) (fun c36 => ?_)
      ·
        have hq := md_neg c36 hq
        refine q_iconst (v := 0) dX13_isEqual_43 (by decide) ?_
        refine mv_weak (A := [none, none, none, none]) (by repeat' constructor) ?_
        exact ro_isEqual_j44 hG hm hq
      ·
        have hq := md_pos c36 hq
        refine q_iconst (v := 1) dX13_isEqual_39 (by decide) ?_
        refine q_goto (tgt := 44) dX13_isEqual_40 (by decide) ?_
        refine mv_weak (A := [none, none, none, none]) (by repeat' constructor) ?_
        exact ro_isEqual_j44 hG hm hq
  ·
    have hq := md_neg c14 hq
    refine q_iconst (v := 0) dX13_isEqual_17 (by decide) ?_
    obtain rfl := Option.some.inj hq
    exact q_iret (ty := .boolean) dX13_isEqual_18 rfl rfl ⟨rfl, rfl⟩
