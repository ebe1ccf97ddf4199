theorem dX1_appendPath_0 : decode cX1_appendPath 0 = .ok (.aload_n 2, 1) := by decide +kernel
theorem dX1_appendPath_1 : decode cX1_appendPath 1 = .ok (.bipush 36, 2) := by decide +kernel
theorem dX1_appendPath_3 : decode cX1_appendPath 3 = .ok (.invokevirtual 72, 3) := by decide +kernel
theorem dX1_appendPath_6 : decode cX1_appendPath 6 = .ok (.pop, 1) := by decide +kernel
theorem dX1_appendPath_7 : decode cX1_appendPath 7 = .ok (.iconst 1, 1) := by decide +kernel
theorem dX1_appendPath_8 : decode cX1_appendPath 8 = .ok (.istore_n 3, 1) := by decide +kernel
theorem dX1_appendPath_9 : decode cX1_appendPath 9 = .ok (.iload_n 3, 1) := by decide +kernel
theorem dX1_appendPath_10 : decode cX1_appendPath 10 = .ok (.iload_n 1, 1) := by decide +kernel
theorem dX1_appendPath_11 : decode cX1_appendPath 11 = .ok (.if_icmp .gt 33, 3) := by decide +kernel
theorem dX1_appendPath_14 : decode cX1_appendPath 14 = .ok (.aload_n 0, 1) := by decide +kernel
theorem dX1_appendPath_15 : decode cX1_appendPath 15 = .ok (.getfield 11, 3) := by decide +kernel
theorem dX1_appendPath_18 : decode cX1_appendPath 18 = .ok (.iload_n 3, 1) := by decide +kernel
theorem dX1_appendPath_19 : decode cX1_appendPath 19 = .ok (.aaload, 1) := by decide +kernel
theorem dX1_appendPath_20 : decode cX1_appendPath 20 = .ok (.getfield 78, 3) := by decide +kernel
theorem dX1_appendPath_23 : decode cX1_appendPath 23 = .ok (.iload_n 1, 1) := by decide +kernel
theorem dX1_appendPath_24 : decode cX1_appendPath 24 = .ok (.if_icmp .le 14, 3) := by decide +kernel
theorem dX1_appendPath_27 : decode cX1_appendPath 27 = .ok (.aload_n 0, 1) := by decide +kernel
theorem dX1_appendPath_28 : decode cX1_appendPath 28 = .ok (.aload_n 0, 1) := by decide +kernel
theorem dX1_appendPath_29 : decode cX1_appendPath 29 = .ok (.getfield 11, 3) := by decide +kernel
theorem dX1_appendPath_32 : decode cX1_appendPath 32 = .ok (.iload_n 3, 1) := by decide +kernel
theorem dX1_appendPath_33 : decode cX1_appendPath 33 = .ok (.aaload, 1) := by decide +kernel
theorem dX1_appendPath_34 : decode cX1_appendPath 34 = .ok (.aload_n 2, 1) := by decide +kernel
theorem dX1_appendPath_35 : decode cX1_appendPath 35 = .ok (.invokevirtual 81, 3) := by decide +kernel
theorem dX1_appendPath_38 : decode cX1_appendPath 38 = .ok (.iinc 3 1, 3) := by decide +kernel
theorem dX1_appendPath_41 : decode cX1_appendPath 41 = .ok (.goto (-32), 3) := by decide +kernel
theorem dX1_appendPath_44 : decode cX1_appendPath 44 = .ok (.return_, 1) := by decide +kernel
theorem dX1_appendStep_0 : decode cX1_appendStep 0 = .ok (.aload_n 0, 1) := by decide +kernel
theorem dX1_appendStep_1 : decode cX1_appendStep 1 = .ok (.getfield 11, 3) := by decide +kernel
theorem dX1_appendStep_4 : decode cX1_appendStep 4 = .ok (.aload_n 1, 1) := by decide +kernel
theorem dX1_appendStep_5 : decode cX1_appendStep 5 = .ok (.getfield 43, 3) := by decide +kernel
theorem dX1_appendStep_8 : decode cX1_appendStep 8 = .ok (.aaload, 1) := by decide +kernel
theorem dX1_appendStep_9 : decode cX1_appendStep 9 = .ok (.getfield 63, 3) := by decide +kernel
theorem dX1_appendStep_12 : decode cX1_appendStep 12 = .ok (.bipush 6, 2) := by decide +kernel
theorem dX1_appendStep_14 : decode cX1_appendStep 14 = .ok (.if_icmp .ne 25, 3) := by decide +kernel
theorem dX1_appendStep_17 : decode cX1_appendStep 17 = .ok (.aload_n 2, 1) := by decide +kernel
theorem dX1_appendStep_18 : decode cX1_appendStep 18 = .ok (.ldc 85, 2) := by decide +kernel
theorem dX1_appendStep_20 : decode cX1_appendStep 20 = .ok (.invokevirtual 87, 3) := by decide +kernel
theorem dX1_appendStep_23 : decode cX1_appendStep 23 = .ok (.aload_n 1, 1) := by decide +kernel
theorem dX1_appendStep_24 : decode cX1_appendStep 24 = .ok (.getfield 40, 3) := by decide +kernel
theorem dX1_appendStep_27 : decode cX1_appendStep 27 = .ok (.invokevirtual 87, 3) := by decide +kernel
theorem dX1_appendStep_30 : decode cX1_appendStep 30 = .ok (.ldc 90, 2) := by decide +kernel
theorem dX1_appendStep_32 : decode cX1_appendStep 32 = .ok (.invokevirtual 87, 3) := by decide +kernel
theorem dX1_appendStep_35 : decode cX1_appendStep 35 = .ok (.pop, 1) := by decide +kernel
theorem dX1_appendStep_36 : decode cX1_appendStep 36 = .ok (.goto 22, 3) := by decide +kernel
theorem dX1_appendStep_39 : decode cX1_appendStep 39 = .ok (.aload_n 2, 1) := by decide +kernel
theorem dX1_appendStep_40 : decode cX1_appendStep 40 = .ok (.bipush 91, 2) := by decide +kernel
theorem dX1_appendStep_42 : decode cX1_appendStep 42 = .ok (.invokevirtual 72, 3) := by decide +kernel
theorem dX1_appendStep_45 : decode cX1_appendStep 45 = .ok (.aload_n 1, 1) := by decide +kernel
theorem dX1_appendStep_46 : decode cX1_appendStep 46 = .ok (.getfield 49, 3) := by decide +kernel
theorem dX1_appendStep_49 : decode cX1_appendStep 49 = .ok (.invokevirtual 92, 3) := by decide +kernel
theorem dX1_appendStep_52 : decode cX1_appendStep 52 = .ok (.bipush 93, 2) := by decide +kernel
theorem dX1_appendStep_54 : decode cX1_appendStep 54 = .ok (.invokevirtual 72, 3) := by decide +kernel
theorem dX1_appendStep_57 : decode cX1_appendStep 57 = .ok (.pop, 1) := by decide +kernel
theorem dX1_appendStep_58 : decode cX1_appendStep 58 = .ok (.return_, 1) := by decide +kernel
theorem dX1_sourceCharacter_0 : decode cX1_sourceCharacter 0 = .ok (.iconst 0, 1) := by decide +kernel
theorem dX1_sourceCharacter_1 : decode cX1_sourceCharacter 1 = .ok (.istore_n 3, 1) := by decide +kernel
theorem dX1_sourceCharacter_2 : decode cX1_sourceCharacter 2 = .ok (.iload_n 2, 1) := by decide +kernel
theorem dX1_sourceCharacter_3 : decode cX1_sourceCharacter 3 = .ok (.istore 4, 2) := by decide +kernel
theorem dX1_sourceCharacter_5 : decode cX1_sourceCharacter 5 = .ok (.aload_n 0, 1) := by decide +kernel
theorem dX1_sourceCharacter_6 : decode cX1_sourceCharacter 6 = .ok (.getfield 11, 3) := by decide +kernel
theorem dX1_sourceCharacter_9 : decode cX1_sourceCharacter 9 = .ok (.iload_n 1, 1) := by decide +kernel
theorem dX1_sourceCharacter_10 : decode cX1_sourceCharacter 10 = .ok (.aaload, 1) := by decide +kernel
theorem dX1_sourceCharacter_11 : decode cX1_sourceCharacter 11 = .ok (.getfield 46, 3) := by decide +kernel
theorem dX1_sourceCharacter_14 : decode cX1_sourceCharacter 14 = .ok (.istore 5, 2) := by decide +kernel
theorem dX1_sourceCharacter_16 : decode cX1_sourceCharacter 16 = .ok (.iload 5, 2) := by decide +kernel
theorem dX1_sourceCharacter_18 : decode cX1_sourceCharacter 18 = .ok (.aload_n 0, 1) := by decide +kernel
theorem dX1_sourceCharacter_19 : decode cX1_sourceCharacter 19 = .ok (.getfield 11, 3) := by decide +kernel
theorem dX1_sourceCharacter_22 : decode cX1_sourceCharacter 22 = .ok (.iload_n 1, 1) := by decide +kernel
theorem dX1_sourceCharacter_23 : decode cX1_sourceCharacter 23 = .ok (.aaload, 1) := by decide +kernel
theorem dX1_sourceCharacter_24 : decode cX1_sourceCharacter 24 = .ok (.getfield 95, 3) := by decide +kernel
theorem dX1_sourceCharacter_27 : decode cX1_sourceCharacter 27 = .ok (.if_icmp .ge 59, 3) := by decide +kernel
theorem dX1_sourceCharacter_30 : decode cX1_sourceCharacter 30 = .ok (.aload_n 0, 1) := by decide +kernel
theorem dX1_sourceCharacter_31 : decode cX1_sourceCharacter 31 = .ok (.getfield 24, 3) := by decide +kernel
theorem dX1_sourceCharacter_34 : decode cX1_sourceCharacter 34 = .ok (.iload 5, 2) := by decide +kernel
theorem dX1_sourceCharacter_36 : decode cX1_sourceCharacter 36 = .ok (.invokevirtual 98, 3) := by decide +kernel
theorem dX1_sourceCharacter_39 : decode cX1_sourceCharacter 39 = .ok (.istore 6, 2) := by decide +kernel
theorem dX1_sourceCharacter_41 : decode cX1_sourceCharacter 41 = .ok (.iload 6, 2) := by decide +kernel
theorem dX1_sourceCharacter_43 : decode cX1_sourceCharacter 43 = .ok (.bipush 34, 2) := by decide +kernel
theorem dX1_sourceCharacter_45 : decode cX1_sourceCharacter 45 = .ok (.if_icmp .ne 13, 3) := by decide +kernel
theorem dX1_sourceCharacter_48 : decode cX1_sourceCharacter 48 = .ok (.iload_n 3, 1) := by decide +kernel
theorem dX1_sourceCharacter_49 : decode cX1_sourceCharacter 49 = .ok (.ifCond .ne 7, 3) := by decide +kernel
theorem dX1_sourceCharacter_52 : decode cX1_sourceCharacter 52 = .ok (.iconst 1, 1) := by decide +kernel
theorem dX1_sourceCharacter_53 : decode cX1_sourceCharacter 53 = .ok (.goto 4, 3) := by decide +kernel
theorem dX1_sourceCharacter_56 : decode cX1_sourceCharacter 56 = .ok (.iconst 0, 1) := by decide +kernel
theorem dX1_sourceCharacter_57 : decode cX1_sourceCharacter 57 = .ok (.istore_n 3, 1) := by decide +kernel
theorem dX1_sourceCharacter_58 : decode cX1_sourceCharacter 58 = .ok (.iload_n 3, 1) := by decide +kernel
theorem dX1_sourceCharacter_59 : decode cX1_sourceCharacter 59 = .ok (.ifCond .ne 10, 3) := by decide +kernel
theorem dX1_sourceCharacter_62 : decode cX1_sourceCharacter 62 = .ok (.iload 6, 2) := by decide +kernel
theorem dX1_sourceCharacter_64 : decode cX1_sourceCharacter 64 = .ok (.bipush 32, 2) := by decide +kernel
theorem dX1_sourceCharacter_66 : decode cX1_sourceCharacter 66 = .ok (.if_icmp .eq 14, 3) := by decide +kernel
theorem dX1_sourceCharacter_69 : decode cX1_sourceCharacter 69 = .ok (.iload 4, 2) := by decide +kernel
theorem dX1_sourceCharacter_71 : decode cX1_sourceCharacter 71 = .ok (.ifCond .ne 6, 3) := by decide +kernel
theorem dX1_sourceCharacter_74 : decode cX1_sourceCharacter 74 = .ok (.iload 6, 2) := by decide +kernel
theorem dX1_sourceCharacter_76 : decode cX1_sourceCharacter 76 = .ok (.ireturn, 1) := by decide +kernel
theorem dX1_sourceCharacter_77 : decode cX1_sourceCharacter 77 = .ok (.iinc 4 (-1), 3) := by decide +kernel
theorem dX1_sourceCharacter_80 : decode cX1_sourceCharacter 80 = .ok (.iinc 5 1, 3) := by decide +kernel
theorem dX1_sourceCharacter_83 : decode cX1_sourceCharacter 83 = .ok (.goto (-67), 3) := by decide +kernel
theorem dX1_sourceCharacter_86 : decode cX1_sourceCharacter 86 = .ok (.iconst 0, 1) := by decide +kernel
theorem dX1_sourceCharacter_87 : decode cX1_sourceCharacter 87 = .ok (.ireturn, 1) := by decide +kernel
theorem dX2_init_0 : decode cX2_init 0 = .ok (.aload_n 0, 1) := by decide +kernel
theorem dX2_init_1 : decode cX2_init 1 = .ok (.invokespecial 3, 3) := by decide +kernel
theorem dX2_init_4 : decode cX2_init 4 = .ok (.aload_n 0, 1) := by decide +kernel
theorem dX2_init_5 : decode cX2_init 5 = .ok (.new 9, 3) := by decide +kernel
theorem dX2_init_8 : decode cX2_init 8 = .ok (.dup, 1) := by decide +kernel
theorem dX2_init_9 : decode cX2_init 9 = .ok (.invokespecial 11, 3) := by decide +kernel
theorem dX2_init_12 : decode cX2_init 12 = .ok (.putfield 12, 3) := by decide +kernel
theorem dX2_init_15 : decode cX2_init 15 = .ok (.aload_n 0, 1) := by decide +kernel
theorem dX2_init_16 : decode cX2_init 16 = .ok (.aconst_null, 1) := by decide +kernel
theorem dX2_init_17 : decode cX2_init 17 = .ok (.putfield 18, 3) := by decide +kernel
theorem dX2_init_20 : decode cX2_init 20 = .ok (.return_, 1) := by decide +kernel
theorem dX2_readInto_0 : decode cX2_readInto 0 = .ok (.aload_n 0, 1) := by decide +kernel
theorem dX2_readInto_1 : decode cX2_readInto 1 = .ok (.aload_n 1, 1) := by decide +kernel
theorem dX2_readInto_2 : decode cX2_readInto 2 = .ok (.putfield 18, 3) := by decide +kernel
theorem dX2_readInto_5 : decode cX2_readInto 5 = .ok (.aload_n 0, 1) := by decide +kernel
theorem dX2_readInto_6 : decode cX2_readInto 6 = .ok (.getfield 18, 3) := by decide +kernel
theorem dX2_readInto_9 : decode cX2_readInto 9 = .ok (.aload_n 2, 1) := by decide +kernel
theorem dX2_readInto_10 : decode cX2_readInto 10 = .ok (.invokevirtual 22, 3) := by decide +kernel
theorem dX2_readInto_13 : decode cX2_readInto 13 = .ok (.aload_n 0, 1) := by decide +kernel
theorem dX2_readInto_14 : decode cX2_readInto 14 = .ok (.getfield 12, 3) := by decide +kernel
theorem dX2_readInto_17 : decode cX2_readInto 17 = .ok (.aload_n 2, 1) := by decide +kernel
theorem dX2_readInto_18 : decode cX2_readInto 18 = .ok (.invokevirtual 28, 3) := by decide +kernel
theorem dX2_readInto_21 : decode cX2_readInto 21 = .ok (.aload_n 0, 1) := by decide +kernel
theorem dX2_readInto_22 : decode cX2_readInto 22 = .ok (.iconst (-1), 1) := by decide +kernel
theorem dX2_readInto_23 : decode cX2_readInto 23 = .ok (.ldc 29, 2) := by decide +kernel
theorem dX2_readInto_25 : decode cX2_readInto 25 = .ok (.iconst 0, 1) := by decide +kernel
theorem dX2_readInto_26 : decode cX2_readInto 26 = .ok (.invokevirtual 31, 3) := by decide +kernel
theorem dX2_readInto_29 : decode cX2_readInto 29 = .ok (.aload_n 0, 1) := by decide +kernel
theorem dX2_readInto_30 : decode cX2_readInto 30 = .ok (.getfield 12, 3) := by decide +kernel
theorem dX2_readInto_33 : decode cX2_readInto 33 = .ok (.invokevirtual 35, 3) := by decide +kernel
theorem dX2_readInto_36 : decode cX2_readInto 36 = .ok (.goto 12, 3) := by decide +kernel
theorem dX2_readInto_39 : decode cX2_readInto 39 = .ok (.astore_n 3, 1) := by decide +kernel
theorem dX2_readInto_40 : decode cX2_readInto 40 = .ok (.aload_n 0, 1) := by decide +kernel
theorem dX2_readInto_41 : decode cX2_readInto 41 = .ok (.getfield 12, 3) := by decide +kernel
theorem dX2_readInto_44 : decode cX2_readInto 44 = .ok (.getfield 40, 3) := by decide +kernel
theorem dX2_readInto_47 : decode cX2_readInto 47 = .ok (.ireturn, 1) := by decide +kernel
theorem dX2_readInto_48 : decode cX2_readInto 48 = .ok (.iconst (-1), 1) := by decide +kernel
theorem dX2_readInto_49 : decode cX2_readInto 49 = .ok (.ireturn, 1) := by decide +kernel
theorem dX2_readValue_0 : decode cX2_readValue 0 = .ok (.aload_n 0, 1) := by decide +kernel
theorem dX2_readValue_1 : decode cX2_readValue 1 = .ok (.getfield 12, 3) := by decide +kernel
theorem dX2_readValue_4 : decode cX2_readValue 4 = .ok (.invokevirtual 44, 3) := by decide +kernel
theorem dX2_readValue_7 : decode cX2_readValue 7 = .ok (.aload_n 0, 1) := by decide +kernel
theorem dX2_readValue_8 : decode cX2_readValue 8 = .ok (.getfield 18, 3) := by decide +kernel
theorem dX2_readValue_11 : decode cX2_readValue 11 = .ok (.getfield 47, 3) := by decide +kernel
theorem dX2_readValue_14 : decode cX2_readValue 14 = .ok (.bipush 40, 2) := by decide +kernel
theorem dX2_readValue_16 : decode cX2_readValue 16 = .ok (.if_icmp .lt 17, 3) := by decide +kernel
theorem dX2_readValue_19 : decode cX2_readValue 19 = .ok (.aload_n 0, 1) := by decide +kernel
theorem dX2_readValue_20 : decode cX2_readValue 20 = .ok (.getfield 12, 3) := by decide +kernel
theorem dX2_readValue_23 : decode cX2_readValue 23 = .ok (.aload_n 0, 1) := by decide +kernel
theorem dX2_readValue_24 : decode cX2_readValue 24 = .ok (.getfield 12, 3) := by decide +kernel
theorem dX2_readValue_27 : decode cX2_readValue 27 = .ok (.getfield 50, 3) := by decide +kernel
theorem dX2_readValue_30 : decode cX2_readValue 30 = .ok (.invokevirtual 53, 3) := by decide +kernel
theorem dX2_readValue_33 : decode cX2_readValue 33 = .ok (.aload_n 0, 1) := by decide +kernel
theorem dX2_readValue_34 : decode cX2_readValue 34 = .ok (.getfield 18, 3) := by decide +kernel
theorem dX2_readValue_37 : decode cX2_readValue 37 = .ok (.iload_n 1, 1) := by decide +kernel
theorem dX2_readValue_38 : decode cX2_readValue 38 = .ok (.aload_n 2, 1) := by decide +kernel
theorem dX2_readValue_39 : decode cX2_readValue 39 = .ok (.aload_n 0, 1) := by decide +kernel
theorem dX2_readValue_40 : decode cX2_readValue 40 = .ok (.getfield 12, 3) := by decide +kernel
theorem dX2_readValue_43 : decode cX2_readValue 43 = .ok (.getfield 50, 3) := by decide +kernel
theorem dX2_readValue_46 : decode cX2_readValue 46 = .ok (.invokevirtual 57, 3) := by decide +kernel
theorem dX2_readValue_49 : decode cX2_readValue 49 = .ok (.istore 4, 2) := by decide +kernel
theorem dX2_readValue_51 : decode cX2_readValue 51 = .ok (.aload_n 0, 1) := by decide +kernel
theorem dX2_readValue_52 : decode cX2_readValue 52 = .ok (.getfield 18, 3) := by decide +kernel
theorem dX2_readValue_55 : decode cX2_readValue 55 = .ok (.getfield 61, 3) := by decide +kernel
theorem dX2_readValue_58 : decode cX2_readValue 58 = .ok (.iload 4, 2) := by decide +kernel
theorem dX2_readValue_60 : decode cX2_readValue 60 = .ok (.aaload, 1) := by decide +kernel
theorem dX2_readValue_61 : decode cX2_readValue 61 = .ok (.astore 5, 2) := by decide +kernel
theorem dX2_readValue_63 : decode cX2_readValue 63 = .ok (.aload_n 0, 1) := by decide +kernel
theorem dX2_readValue_64 : decode cX2_readValue 64 = .ok (.getfield 12, 3) := by decide +kernel
theorem dX2_readValue_67 : decode cX2_readValue 67 = .ok (.invokevirtual 65, 3) := by decide +kernel
theorem dX2_readValue_70 : decode cX2_readValue 70 = .ok (.lookupswitch 50 #[(91, 26), (123, 38)], 26) := by decide +kernel
theorem dX2_readValue_96 : decode cX2_readValue 96 = .ok (.aload_n 0, 1) := by decide +kernel
theorem dX2_readValue_97 : decode cX2_readValue 97 = .ok (.iload 4, 2) := by decide +kernel
theorem dX2_readValue_99 : decode cX2_readValue 99 = .ok (.iload_n 3, 1) := by decide +kernel
theorem dX2_readValue_100 : decode cX2_readValue 100 = .ok (.iconst 1, 1) := by decide +kernel
theorem dX2_readValue_101 : decode cX2_readValue 101 = .ok (.iadd, 1) := by decide +kernel
theorem dX2_readValue_102 : decode cX2_readValue 102 = .ok (.invokevirtual 69, 3) := by decide +kernel
theorem dX2_readValue_105 : decode cX2_readValue 105 = .ok (.goto 28, 3) := by decide +kernel
theorem dX2_readValue_108 : decode cX2_readValue 108 = .ok (.aload_n 0, 1) := by decide +kernel
theorem dX2_readValue_109 : decode cX2_readValue 109 = .ok (.iload 4, 2) := by decide +kernel
theorem dX2_readValue_111 : decode cX2_readValue 111 = .ok (.iload_n 3, 1) := by decide +kernel
theorem dX2_readValue_112 : decode cX2_readValue 112 = .ok (.iconst 1, 1) := by decide +kernel
theorem dX2_readValue_113 : decode cX2_readValue 113 = .ok (.iadd, 1) := by decide +kernel
theorem dX2_readValue_114 : decode cX2_readValue 114 = .ok (.invokevirtual 73, 3) := by decide +kernel
theorem dX2_readValue_117 : decode cX2_readValue 117 = .ok (.goto 16, 3) := by decide +kernel
theorem dX2_readValue_120 : decode cX2_readValue 120 = .ok (.aload_n 0, 1) := by decide +kernel
theorem dX2_readValue_121 : decode cX2_readValue 121 = .ok (.getfield 12, 3) := by decide +kernel
theorem dX2_readValue_124 : decode cX2_readValue 124 = .ok (.aload 5, 2) := by decide +kernel
theorem dX2_readValue_126 : decode cX2_readValue 126 = .ok (.bipush 34, 2) := by decide +kernel
theorem dX2_readValue_128 : decode cX2_readValue 128 = .ok (.bipush 92, 2) := by decide +kernel
theorem dX2_readValue_130 : decode cX2_readValue 130 = .ok (.invokevirtual 76, 3) := by decide +kernel
theorem dX2_readValue_133 : decode cX2_readValue 133 = .ok (.aload 5, 2) := by decide +kernel
theorem dX2_readValue_135 : decode cX2_readValue 135 = .ok (.aload_n 0, 1) := by decide +kernel
theorem dX2_readValue_136 : decode cX2_readValue 136 = .ok (.getfield 12, 3) := by decide +kernel
theorem dX2_readValue_139 : decode cX2_readValue 139 = .ok (.getfield 50, 3) := by decide +kernel
theorem dX2_readValue_142 : decode cX2_readValue 142 = .ok (.putfield 80, 3) := by decide +kernel
theorem dX2_readValue_145 : decode cX2_readValue 145 = .ok (.aload 5, 2) := by decide +kernel
theorem dX2_readValue_147 : decode cX2_readValue 147 = .ok (.aload_n 0, 1) := by decide +kernel
theorem dX2_readValue_148 : decode cX2_readValue 148 = .ok (.getfield 18, 3) := by decide +kernel
theorem dX2_readValue_151 : decode cX2_readValue 151 = .ok (.getfield 47, 3) := by decide +kernel
theorem dX2_readValue_154 : decode cX2_readValue 154 = .ok (.putfield 85, 3) := by decide +kernel
theorem dX2_readValue_157 : decode cX2_readValue 157 = .ok (.aload_n 0, 1) := by decide +kernel
theorem dX2_readValue_158 : decode cX2_readValue 158 = .ok (.getfield 12, 3) := by decide +kernel
theorem dX2_readValue_161 : decode cX2_readValue 161 = .ok (.invokevirtual 44, 3) := by decide +kernel
theorem dX2_readValue_164 : decode cX2_readValue 164 = .ok (.return_, 1) := by decide +kernel
theorem dX2_openHolder_0 : decode cX2_openHolder 0 = .ok (.iload_n 3, 1) := by decide +kernel
theorem dX2_openHolder_1 : decode cX2_openHolder 1 = .ok (.bipush 6, 2) := by decide +kernel
theorem dX2_openHolder_3 : decode cX2_openHolder 3 = .ok (.if_icmp .le 17, 3) := by decide +kernel
theorem dX2_openHolder_6 : decode cX2_openHolder 6 = .ok (.aload_n 0, 1) := by decide +kernel
theorem dX2_openHolder_7 : decode cX2_openHolder 7 = .ok (.getfield 12, 3) := by decide +kernel
theorem dX2_openHolder_10 : decode cX2_openHolder 10 = .ok (.aload_n 0, 1) := by decide +kernel
theorem dX2_openHolder_11 : decode cX2_openHolder 11 = .ok (.getfield 12, 3) := by decide +kernel
theorem dX2_openHolder_14 : decode cX2_openHolder 14 = .ok (.getfield 50, 3) := by decide +kernel
theorem dX2_openHolder_17 : decode cX2_openHolder 17 = .ok (.invokevirtual 53, 3) := by decide +kernel
theorem dX2_openHolder_20 : decode cX2_openHolder 20 = .ok (.aload_n 0, 1) := by decide +kernel
theorem dX2_openHolder_21 : decode cX2_openHolder 21 = .ok (.getfield 18, 3) := by decide +kernel
theorem dX2_openHolder_24 : decode cX2_openHolder 24 = .ok (.getfield 61, 3) := by decide +kernel
theorem dX2_openHolder_27 : decode cX2_openHolder 27 = .ok (.iload_n 1, 1) := by decide +kernel
theorem dX2_openHolder_28 : decode cX2_openHolder 28 = .ok (.aaload, 1) := by decide +kernel
theorem dX2_openHolder_29 : decode cX2_openHolder 29 = .ok (.iload_n 2, 1) := by decide +kernel
theorem dX2_openHolder_30 : decode cX2_openHolder 30 = .ok (.putfield 88, 3) := by decide +kernel
theorem dX2_openHolder_33 : decode cX2_openHolder 33 = .ok (.aload_n 0, 1) := by decide +kernel
theorem dX2_openHolder_34 : decode cX2_openHolder 34 = .ok (.getfield 12, 3) := by decide +kernel
theorem dX2_openHolder_37 : decode cX2_openHolder 37 = .ok (.invokevirtual 91, 3) := by decide +kernel
theorem dX2_openHolder_40 : decode cX2_openHolder 40 = .ok (.aload_n 0, 1) := by decide +kernel
theorem dX2_openHolder_41 : decode cX2_openHolder 41 = .ok (.getfield 12, 3) := by decide +kernel
theorem dX2_openHolder_44 : decode cX2_openHolder 44 = .ok (.invokevirtual 44, 3) := by decide +kernel
theorem dX2_openHolder_47 : decode cX2_openHolder 47 = .ok (.return_, 1) := by decide +kernel
theorem dX2_readArray_0 : decode cX2_readArray 0 = .ok (.aload_n 0, 1) := by decide +kernel
theorem dX2_readArray_1 : decode cX2_readArray 1 = .ok (.iload_n 1, 1) := by decide +kernel
theorem dX2_readArray_2 : decode cX2_readArray 2 = .ok (.iconst 5, 1) := by decide +kernel
theorem dX2_readArray_3 : decode cX2_readArray 3 = .ok (.iload_n 2, 1) := by decide +kernel
theorem dX2_readArray_4 : decode cX2_readArray 4 = .ok (.invokevirtual 94, 3) := by decide +kernel
theorem dX2_readArray_7 : decode cX2_readArray 7 = .ok (.aload_n 0, 1) := by decide +kernel
theorem dX2_readArray_8 : decode cX2_readArray 8 = .ok (.getfield 12, 3) := by decide +kernel
theorem dX2_readArray_11 : decode cX2_readArray 11 = .ok (.bipush 93, 2) := by decide +kernel
theorem dX2_readArray_13 : decode cX2_readArray 13 = .ok (.invokevirtual 98, 3) := by decide +kernel
theorem dX2_readArray_16 : decode cX2_readArray 16 = .ok (.ifCond .eq 4, 3) := by decide +kernel
theorem dX2_readArray_19 : decode cX2_readArray 19 = .ok (.return_, 1) := by decide +kernel
theorem dX2_readArray_20 : decode cX2_readArray 20 = .ok (.iconst 0, 1) := by decide +kernel
theorem dX2_readArray_21 : decode cX2_readArray 21 = .ok (.istore_n 3, 1) := by decide +kernel
theorem dX2_readArray_22 : decode cX2_readArray 22 = .ok (.aload_n 0, 1) := by decide +kernel
theorem dX2_readArray_23 : decode cX2_readArray 23 = .ok (.iload_n 1, 1) := by decide +kernel
theorem dX2_readArray_24 : decode cX2_readArray 24 = .ok (.ldc 29, 2) := by decide +kernel
theorem dX2_readArray_26 : decode cX2_readArray 26 = .ok (.iload_n 2, 1) := by decide +kernel
theorem dX2_readArray_27 : decode cX2_readArray 27 = .ok (.invokevirtual 31, 3) := by decide +kernel
theorem dX2_readArray_30 : decode cX2_readArray 30 = .ok (.iinc 3 1, 3) := by decide +kernel
theorem dX2_readArray_33 : decode cX2_readArray 33 = .ok (.iload_n 3, 1) := by decide +kernel
theorem dX2_readArray_34 : decode cX2_readArray 34 = .ok (.bipush 40, 2) := by decide +kernel
theorem dX2_readArray_36 : decode cX2_readArray 36 = .ok (.if_icmp .ge 15, 3) := by decide +kernel
theorem dX2_readArray_39 : decode cX2_readArray 39 = .ok (.aload_n 0, 1) := by decide +kernel
theorem dX2_readArray_40 : decode cX2_readArray 40 = .ok (.getfield 12, 3) := by decide +kernel
theorem dX2_readArray_43 : decode cX2_readArray 43 = .ok (.bipush 44, 2) := by decide +kernel
theorem dX2_readArray_45 : decode cX2_readArray 45 = .ok (.invokevirtual 98, 3) := by decide +kernel
theorem dX2_readArray_48 : decode cX2_readArray 48 = .ok (.ifCond .ne (-26), 3) := by decide +kernel
theorem dX2_readArray_51 : decode cX2_readArray 51 = .ok (.aload_n 0, 1) := by decide +kernel
theorem dX2_readArray_52 : decode cX2_readArray 52 = .ok (.getfield 12, 3) := by decide +kernel
theorem dX2_readArray_55 : decode cX2_readArray 55 = .ok (.bipush 93, 2) := by decide +kernel
theorem dX2_readArray_57 : decode cX2_readArray 57 = .ok (.invokevirtual 102, 3) := by decide +kernel
theorem dX2_readArray_60 : decode cX2_readArray 60 = .ok (.return_, 1) := by decide +kernel
theorem dX2_readObject_0 : decode cX2_readObject 0 = .ok (.aload_n 0, 1) := by decide +kernel
theorem dX2_readObject_1 : decode cX2_readObject 1 = .ok (.iload_n 1, 1) := by decide +kernel
theorem dX2_readObject_2 : decode cX2_readObject 2 = .ok (.bipush 6, 2) := by decide +kernel
theorem dX2_readObject_4 : decode cX2_readObject 4 = .ok (.iload_n 2, 1) := by decide +kernel
theorem dX2_readObject_5 : decode cX2_readObject 5 = .ok (.invokevirtual 94, 3) := by decide +kernel
theorem dX2_readObject_8 : decode cX2_readObject 8 = .ok (.aload_n 0, 1) := by decide +kernel
theorem dX2_readObject_9 : decode cX2_readObject 9 = .ok (.getfield 12, 3) := by decide +kernel
theorem dX2_readObject_12 : decode cX2_readObject 12 = .ok (.bipush 125, 2) := by decide +kernel
theorem dX2_readObject_14 : decode cX2_readObject 14 = .ok (.invokevirtual 98, 3) := by decide +kernel
theorem dX2_readObject_17 : decode cX2_readObject 17 = .ok (.ifCond .eq 4, 3) := by decide +kernel
theorem dX2_readObject_20 : decode cX2_readObject 20 = .ok (.return_, 1) := by decide +kernel
theorem dX2_readObject_21 : decode cX2_readObject 21 = .ok (.iconst 0, 1) := by decide +kernel
theorem dX2_readObject_22 : decode cX2_readObject 22 = .ok (.istore_n 3, 1) := by decide +kernel
theorem dX2_readObject_23 : decode cX2_readObject 23 = .ok (.aload_n 0, 1) := by decide +kernel
theorem dX2_readObject_24 : decode cX2_readObject 24 = .ok (.iload_n 1, 1) := by decide +kernel
theorem dX2_readObject_25 : decode cX2_readObject 25 = .ok (.aload_n 0, 1) := by decide +kernel
theorem dX2_readObject_26 : decode cX2_readObject 26 = .ok (.iload_n 1, 1) := by decide +kernel
theorem dX2_readObject_27 : decode cX2_readObject 27 = .ok (.invokevirtual 106, 3) := by decide +kernel
theorem dX2_readObject_30 : decode cX2_readObject 30 = .ok (.iload_n 2, 1) := by decide +kernel
theorem dX2_readObject_31 : decode cX2_readObject 31 = .ok (.invokevirtual 31, 3) := by decide +kernel
theorem dX2_readObject_34 : decode cX2_readObject 34 = .ok (.iinc 3 1, 3) := by decide +kernel
theorem dX2_readObject_37 : decode cX2_readObject 37 = .ok (.iload_n 3, 1) := by decide +kernel
theorem dX2_readObject_38 : decode cX2_readObject 38 = .ok (.bipush 40, 2) := by decide +kernel
theorem dX2_readObject_40 : decode cX2_readObject 40 = .ok (.if_icmp .ge 15, 3) := by decide +kernel
theorem dX2_readObject_43 : decode cX2_readObject 43 = .ok (.aload_n 0, 1) := by decide +kernel
theorem dX2_readObject_44 : decode cX2_readObject 44 = .ok (.getfield 12, 3) := by decide +kernel
theorem dX2_readObject_47 : decode cX2_readObject 47 = .ok (.bipush 44, 2) := by decide +kernel
theorem dX2_readObject_49 : decode cX2_readObject 49 = .ok (.invokevirtual 98, 3) := by decide +kernel
theorem dX2_readObject_52 : decode cX2_readObject 52 = .ok (.ifCond .ne (-29), 3) := by decide +kernel
theorem dX2_readObject_55 : decode cX2_readObject 55 = .ok (.aload_n 0, 1) := by decide +kernel
theorem dX2_readObject_56 : decode cX2_readObject 56 = .ok (.getfield 12, 3) := by decide +kernel
theorem dX2_readObject_59 : decode cX2_readObject 59 = .ok (.bipush 125, 2) := by decide +kernel
theorem dX2_readObject_61 : decode cX2_readObject 61 = .ok (.invokevirtual 102, 3) := by decide +kernel
theorem dX2_readObject_64 : decode cX2_readObject 64 = .ok (.return_, 1) := by decide +kernel
theorem dX2_readMemberName_0 : decode cX2_readMemberName 0 = .ok (.aload_n 0, 1) := by decide +kernel
theorem dX2_readMemberName_1 : decode cX2_readMemberName 1 = .ok (.getfield 12, 3) := by decide +kernel
theorem dX2_readMemberName_4 : decode cX2_readMemberName 4 = .ok (.invokevirtual 44, 3) := by decide +kernel
theorem dX2_readMemberName_7 : decode cX2_readMemberName 7 = .ok (.aload_n 0, 1) := by decide +kernel
theorem dX2_readMemberName_8 : decode cX2_readMemberName 8 = .ok (.getfield 12, 3) := by decide +kernel
theorem dX2_readMemberName_11 : decode cX2_readMemberName 11 = .ok (.getfield 50, 3) := by decide +kernel
theorem dX2_readMemberName_14 : decode cX2_readMemberName 14 = .ok (.istore_n 2, 1) := by decide +kernel
theorem dX2_readMemberName_15 : decode cX2_readMemberName 15 = .ok (.aload_n 0, 1) := by decide +kernel
theorem dX2_readMemberName_16 : decode cX2_readMemberName 16 = .ok (.getfield 12, 3) := by decide +kernel
theorem dX2_readMemberName_19 : decode cX2_readMemberName 19 = .ok (.bipush 34, 2) := by decide +kernel
theorem dX2_readMemberName_21 : decode cX2_readMemberName 21 = .ok (.bipush 92, 2) := by decide +kernel
theorem dX2_readMemberName_23 : decode cX2_readMemberName 23 = .ok (.invokevirtual 110, 3) := by decide +kernel
theorem dX2_readMemberName_26 : decode cX2_readMemberName 26 = .ok (.astore_n 3, 1) := by decide +kernel
theorem dX2_readMemberName_27 : decode cX2_readMemberName 27 = .ok (.aload_n 0, 1) := by decide +kernel
theorem dX2_readMemberName_28 : decode cX2_readMemberName 28 = .ok (.getfield 18, 3) := by decide +kernel
theorem dX2_readMemberName_31 : decode cX2_readMemberName 31 = .ok (.iload_n 1, 1) := by decide +kernel
theorem dX2_readMemberName_32 : decode cX2_readMemberName 32 = .ok (.aload_n 3, 1) := by decide +kernel
theorem dX2_readMemberName_33 : decode cX2_readMemberName 33 = .ok (.invokevirtual 114, 3) := by decide +kernel
theorem dX2_readMemberName_36 : decode cX2_readMemberName 36 = .ok (.iconst (-1), 1) := by decide +kernel
theorem dX2_readMemberName_37 : decode cX2_readMemberName 37 = .ok (.if_icmp .eq 11, 3) := by decide +kernel
theorem dX2_readMemberName_40 : decode cX2_readMemberName 40 = .ok (.aload_n 0, 1) := by decide +kernel
theorem dX2_readMemberName_41 : decode cX2_readMemberName 41 = .ok (.getfield 12, 3) := by decide +kernel
theorem dX2_readMemberName_44 : decode cX2_readMemberName 44 = .ok (.iload_n 2, 1) := by decide +kernel
theorem dX2_readMemberName_45 : decode cX2_readMemberName 45 = .ok (.invokevirtual 53, 3) := by decide +kernel
theorem dX2_readMemberName_48 : decode cX2_readMemberName 48 = .ok (.aload_n 0, 1) := by decide +kernel
theorem dX2_readMemberName_49 : decode cX2_readMemberName 49 = .ok (.getfield 12, 3) := by decide +kernel
theorem dX2_readMemberName_52 : decode cX2_readMemberName 52 = .ok (.invokevirtual 44, 3) := by decide +kernel
theorem dX2_readMemberName_55 : decode cX2_readMemberName 55 = .ok (.aload_n 0, 1) := by decide +kernel
theorem dX2_readMemberName_56 : decode cX2_readMemberName 56 = .ok (.getfield 12, 3) := by decide +kernel
theorem dX2_readMemberName_59 : decode cX2_readMemberName 59 = .ok (.bipush 58, 2) := by decide +kernel
theorem dX2_readMemberName_61 : decode cX2_readMemberName 61 = .ok (.invokevirtual 102, 3) := by decide +kernel
theorem dX2_readMemberName_64 : decode cX2_readMemberName 64 = .ok (.aload_n 3, 1) := by decide +kernel
theorem dX2_readMemberName_65 : decode cX2_readMemberName 65 = .ok (.areturn, 1) := by decide +kernel
theorem dX4_init_0 : decode cX4_init 0 = .ok (.aload_n 0, 1) := by decide +kernel
theorem dX4_init_1 : decode cX4_init 1 = .ok (.invokespecial 1, 3) := by decide +kernel
theorem dX4_init_4 : decode cX4_init 4 = .ok (.aload_n 0, 1) := by decide +kernel
theorem dX4_init_5 : decode cX4_init 5 = .ok (.aconst_null, 1) := by decide +kernel
theorem dX4_init_6 : decode cX4_init 6 = .ok (.putfield 7, 3) := by decide +kernel
theorem dX4_init_9 : decode cX4_init 9 = .ok (.aload_n 0, 1) := by decide +kernel
theorem dX4_init_10 : decode cX4_init 10 = .ok (.aconst_null, 1) := by decide +kernel
theorem dX4_init_11 : decode cX4_init 11 = .ok (.putfield 13, 3) := by decide +kernel
theorem dX4_init_14 : decode cX4_init 14 = .ok (.aload_n 0, 1) := by decide +kernel
theorem dX4_init_15 : decode cX4_init 15 = .ok (.iconst 0, 1) := by decide +kernel
theorem dX4_init_16 : decode cX4_init 16 = .ok (.putfield 16, 3) := by decide +kernel
theorem dX4_init_19 : decode cX4_init 19 = .ok (.aload_n 0, 1) := by decide +kernel
theorem dX4_init_20 : decode cX4_init 20 = .ok (.iconst 1, 1) := by decide +kernel
theorem dX4_init_21 : decode cX4_init 21 = .ok (.putfield 20, 3) := by decide +kernel
theorem dX4_init_24 : decode cX4_init 24 = .ok (.aload_n 0, 1) := by decide +kernel
theorem dX4_init_25 : decode cX4_init 25 = .ok (.iload_n 1, 1) := by decide +kernel
theorem dX4_init_26 : decode cX4_init 26 = .ok (.putfield 24, 3) := by decide +kernel
theorem dX4_init_29 : decode cX4_init 29 = .ok (.return_, 1) := by decide +kernel
theorem dX4_add_0 : decode cX4_add 0 = .ok (.aload_n 0, 1) := by decide +kernel
theorem dX4_add_1 : decode cX4_add 1 = .ok (.getfield 13, 3) := by decide +kernel
theorem dX4_add_4 : decode cX4_add 4 = .ok (.ifnonnull 11, 3) := by decide +kernel
theorem dX4_add_7 : decode cX4_add 7 = .ok (.aload_n 0, 1) := by decide +kernel
theorem dX4_add_8 : decode cX4_add 8 = .ok (.aload_n 1, 1) := by decide +kernel
theorem dX4_add_9 : decode cX4_add 9 = .ok (.putfield 7, 3) := by decide +kernel
theorem dX4_add_12 : decode cX4_add 12 = .ok (.goto 11, 3) := by decide +kernel
theorem dX4_add_15 : decode cX4_add 15 = .ok (.aload_n 0, 1) := by decide +kernel
theorem dX4_add_16 : decode cX4_add 16 = .ok (.getfield 13, 3) := by decide +kernel
theorem dX4_add_19 : decode cX4_add 19 = .ok (.aload_n 1, 1) := by decide +kernel
theorem dX4_add_20 : decode cX4_add 20 = .ok (.putfield 27, 3) := by decide +kernel
theorem dX4_add_23 : decode cX4_add 23 = .ok (.aload_n 0, 1) := by decide +kernel
theorem dX4_add_24 : decode cX4_add 24 = .ok (.aload_n 1, 1) := by decide +kernel
theorem dX4_add_25 : decode cX4_add 25 = .ok (.putfield 13, 3) := by decide +kernel
theorem dX4_add_28 : decode cX4_add 28 = .ok (.aload_n 0, 1) := by decide +kernel
theorem dX4_add_29 : decode cX4_add 29 = .ok (.dup, 1) := by decide +kernel
theorem dX4_add_30 : decode cX4_add 30 = .ok (.getfield 16, 3) := by decide +kernel
theorem dX4_add_33 : decode cX4_add 33 = .ok (.iconst 1, 1) := by decide +kernel
theorem dX4_add_34 : decode cX4_add 34 = .ok (.iadd, 1) := by decide +kernel
theorem dX4_add_35 : decode cX4_add 35 = .ok (.putfield 16, 3) := by decide +kernel
theorem dX4_add_38 : decode cX4_add 38 = .ok (.aload_n 0, 1) := by decide +kernel
theorem dX4_add_39 : decode cX4_add 39 = .ok (.aload_n 0, 1) := by decide +kernel
theorem dX4_add_40 : decode cX4_add 40 = .ok (.getfield 20, 3) := by decide +kernel
theorem dX4_add_43 : decode cX4_add 43 = .ok (.ifCond .eq 14, 3) := by decide +kernel
theorem dX4_add_46 : decode cX4_add 46 = .ok (.aload_n 1, 1) := by decide +kernel
theorem dX4_add_47 : decode cX4_add 47 = .ok (.invokevirtual 32, 3) := by decide +kernel
theorem dX4_add_50 : decode cX4_add 50 = .ok (.ifCond .eq 7, 3) := by decide +kernel
theorem dX4_add_53 : decode cX4_add 53 = .ok (.iconst 1, 1) := by decide +kernel
theorem dX4_add_54 : decode cX4_add 54 = .ok (.goto 4, 3) := by decide +kernel
theorem dX4_add_57 : decode cX4_add 57 = .ok (.iconst 0, 1) := by decide +kernel
theorem dX4_add_58 : decode cX4_add 58 = .ok (.putfield 20, 3) := by decide +kernel
theorem dX4_add_61 : decode cX4_add 61 = .ok (.return_, 1) := by decide +kernel
theorem dX7_init_0 : decode cX7_init 0 = .ok (.aload_n 0, 1) := by decide +kernel
theorem dX7_init_1 : decode cX7_init 1 = .ok (.invokespecial 1, 3) := by decide +kernel
theorem dX7_init_4 : decode cX7_init 4 = .ok (.aload_n 0, 1) := by decide +kernel
theorem dX7_init_5 : decode cX7_init 5 = .ok (.aconst_null, 1) := by decide +kernel
theorem dX7_init_6 : decode cX7_init 6 = .ok (.putfield 7, 3) := by decide +kernel
theorem dX7_init_9 : decode cX7_init 9 = .ok (.aload_n 0, 1) := by decide +kernel
theorem dX7_init_10 : decode cX7_init 10 = .ok (.aconst_null, 1) := by decide +kernel
theorem dX7_init_11 : decode cX7_init 11 = .ok (.putfield 13, 3) := by decide +kernel
theorem dX7_init_14 : decode cX7_init 14 = .ok (.aload_n 0, 1) := by decide +kernel
theorem dX7_init_15 : decode cX7_init 15 = .ok (.aconst_null, 1) := by decide +kernel
theorem dX7_init_16 : decode cX7_init 16 = .ok (.putfield 16, 3) := by decide +kernel
theorem dX7_init_19 : decode cX7_init 19 = .ok (.aload_n 0, 1) := by decide +kernel
theorem dX7_init_20 : decode cX7_init 20 = .ok (.iload_n 1, 1) := by decide +kernel
theorem dX7_init_21 : decode cX7_init 21 = .ok (.putfield 20, 3) := by decide +kernel
theorem dX7_init_24 : decode cX7_init 24 = .ok (.return_, 1) := by decide +kernel
theorem dX7_add_0 : decode cX7_add 0 = .ok (.aload_n 0, 1) := by decide +kernel
theorem dX7_add_1 : decode cX7_add 1 = .ok (.getfield 13, 3) := by decide +kernel
theorem dX7_add_4 : decode cX7_add 4 = .ok (.ifnonnull 11, 3) := by decide +kernel
theorem dX7_add_7 : decode cX7_add 7 = .ok (.aload_n 0, 1) := by decide +kernel
theorem dX7_add_8 : decode cX7_add 8 = .ok (.aload_n 1, 1) := by decide +kernel
theorem dX7_add_9 : decode cX7_add 9 = .ok (.putfield 7, 3) := by decide +kernel
theorem dX7_add_12 : decode cX7_add 12 = .ok (.goto 11, 3) := by decide +kernel
theorem dX7_add_15 : decode cX7_add 15 = .ok (.aload_n 0, 1) := by decide +kernel
theorem dX7_add_16 : decode cX7_add 16 = .ok (.getfield 13, 3) := by decide +kernel
theorem dX7_add_19 : decode cX7_add 19 = .ok (.aload_n 1, 1) := by decide +kernel
theorem dX7_add_20 : decode cX7_add 20 = .ok (.putfield 24, 3) := by decide +kernel
theorem dX7_add_23 : decode cX7_add 23 = .ok (.aload_n 0, 1) := by decide +kernel
theorem dX7_add_24 : decode cX7_add 24 = .ok (.aload_n 1, 1) := by decide +kernel
theorem dX7_add_25 : decode cX7_add 25 = .ok (.putfield 13, 3) := by decide +kernel
theorem dX7_add_28 : decode cX7_add 28 = .ok (.return_, 1) := by decide +kernel
theorem dX7_isSingle_0 : decode cX7_isSingle 0 = .ok (.aload_n 0, 1) := by decide +kernel
theorem dX7_isSingle_1 : decode cX7_isSingle 1 = .ok (.getfield 20, 3) := by decide +kernel
theorem dX7_isSingle_4 : decode cX7_isSingle 4 = .ok (.ifCond .ne 46, 3) := by decide +kernel
theorem dX7_isSingle_7 : decode cX7_isSingle 7 = .ok (.aload_n 0, 1) := by decide +kernel
theorem dX7_isSingle_8 : decode cX7_isSingle 8 = .ok (.getfield 7, 3) := by decide +kernel
theorem dX7_isSingle_11 : decode cX7_isSingle 11 = .ok (.ifnull 39, 3) := by decide +kernel
theorem dX7_isSingle_14 : decode cX7_isSingle 14 = .ok (.aload_n 0, 1) := by decide +kernel
theorem dX7_isSingle_15 : decode cX7_isSingle 15 = .ok (.getfield 7, 3) := by decide +kernel
theorem dX7_isSingle_18 : decode cX7_isSingle 18 = .ok (.aload_n 0, 1) := by decide +kernel
theorem dX7_isSingle_19 : decode cX7_isSingle 19 = .ok (.getfield 13, 3) := by decide +kernel
theorem dX7_isSingle_22 : decode cX7_isSingle 22 = .ok (.if_acmp .ne 28, 3) := by decide +kernel
theorem dX7_isSingle_25 : decode cX7_isSingle 25 = .ok (.aload_n 0, 1) := by decide +kernel
theorem dX7_isSingle_26 : decode cX7_isSingle 26 = .ok (.getfield 7, 3) := by decide +kernel
theorem dX7_isSingle_29 : decode cX7_isSingle 29 = .ok (.getfield 28, 3) := by decide +kernel
theorem dX7_isSingle_32 : decode cX7_isSingle 32 = .ok (.ifCond .eq 14, 3) := by decide +kernel
theorem dX7_isSingle_35 : decode cX7_isSingle 35 = .ok (.aload_n 0, 1) := by decide +kernel
theorem dX7_isSingle_36 : decode cX7_isSingle 36 = .ok (.getfield 7, 3) := by decide +kernel
theorem dX7_isSingle_39 : decode cX7_isSingle 39 = .ok (.getfield 28, 3) := by decide +kernel
theorem dX7_isSingle_42 : decode cX7_isSingle 42 = .ok (.iconst 2, 1) := by decide +kernel
theorem dX7_isSingle_43 : decode cX7_isSingle 43 = .ok (.if_icmp .ne 7, 3) := by decide +kernel
theorem dX7_isSingle_46 : decode cX7_isSingle 46 = .ok (.iconst 1, 1) := by decide +kernel
theorem dX7_isSingle_47 : decode cX7_isSingle 47 = .ok (.goto 4, 3) := by decide +kernel
theorem dX7_isSingle_50 : decode cX7_isSingle 50 = .ok (.iconst 0, 1) := by decide +kernel
theorem dX7_isSingle_51 : decode cX7_isSingle 51 = .ok (.ireturn, 1) := by decide +kernel
theorem dX8_init_0 : decode cX8_init 0 = .ok (.aload_n 0, 1) := by decide +kernel
theorem dX8_init_1 : decode cX8_init 1 = .ok (.invokespecial 1, 3) := by decide +kernel
theorem dX8_init_4 : decode cX8_init 4 = .ok (.aload_n 0, 1) := by decide +kernel
theorem dX8_init_5 : decode cX8_init 5 = .ok (.ldc 7, 2) := by decide +kernel
theorem dX8_init_7 : decode cX8_init 7 = .ok (.putfield 9, 3) := by decide +kernel
theorem dX8_init_10 : decode cX8_init 10 = .ok (.aload_n 0, 1) := by decide +kernel
theorem dX8_init_11 : decode cX8_init 11 = .ok (.iconst 0, 1) := by decide +kernel
theorem dX8_init_12 : decode cX8_init 12 = .ok (.putfield 15, 3) := by decide +kernel
theorem dX8_init_15 : decode cX8_init 15 = .ok (.aload_n 0, 1) := by decide +kernel
theorem dX8_init_16 : decode cX8_init 16 = .ok (.iconst 0, 1) := by decide +kernel
theorem dX8_init_17 : decode cX8_init 17 = .ok (.putfield 19, 3) := by decide +kernel
theorem dX8_init_20 : decode cX8_init 20 = .ok (.aload_n 0, 1) := by decide +kernel
theorem dX8_init_21 : decode cX8_init 21 = .ok (.iconst 1, 1) := by decide +kernel
theorem dX8_init_22 : decode cX8_init 22 = .ok (.putfield 22, 3) := by decide +kernel
theorem dX8_init_25 : decode cX8_init 25 = .ok (.aload_n 0, 1) := by decide +kernel
theorem dX8_init_26 : decode cX8_init 26 = .ok (.iconst 0, 1) := by decide +kernel
theorem dX8_init_27 : decode cX8_init 27 = .ok (.putfield 25, 3) := by decide +kernel
theorem dX8_init_30 : decode cX8_init 30 = .ok (.aload_n 0, 1) := by decide +kernel
theorem dX8_init_31 : decode cX8_init 31 = .ok (.iconst 0, 1) := by decide +kernel
theorem dX8_init_32 : decode cX8_init 32 = .ok (.putfield 29, 3) := by decide +kernel
theorem dX8_init_35 : decode cX8_init 35 = .ok (.aload_n 0, 1) := by decide +kernel
theorem dX8_init_36 : decode cX8_init 36 = .ok (.aconst_null, 1) := by decide +kernel
theorem dX8_init_37 : decode cX8_init 37 = .ok (.putfield 32, 3) := by decide +kernel
theorem dX8_init_40 : decode cX8_init 40 = .ok (.aload_n 0, 1) := by decide +kernel
theorem dX8_init_41 : decode cX8_init 41 = .ok (.aconst_null, 1) := by decide +kernel
theorem dX8_init_42 : decode cX8_init 42 = .ok (.putfield 36, 3) := by decide +kernel
theorem dX8_init_45 : decode cX8_init 45 = .ok (.aload_n 0, 1) := by decide +kernel
theorem dX8_init_46 : decode cX8_init 46 = .ok (.iload_n 1, 1) := by decide +kernel
theorem dX8_init_47 : decode cX8_init 47 = .ok (.putfield 40, 3) := by decide +kernel
theorem dX8_init_50 : decode cX8_init 50 = .ok (.return_, 1) := by decide +kernel
theorem dX9_init_0 : decode cX9_init 0 = .ok (.aload_n 0, 1) := by decide +kernel
theorem dX9_init_1 : decode cX9_init 1 = .ok (.invokespecial 1, 3) := by decide +kernel
theorem dX9_init_4 : decode cX9_init 4 = .ok (.aload_n 0, 1) := by decide +kernel
theorem dX9_init_5 : decode cX9_init 5 = .ok (.aconst_null, 1) := by decide +kernel
theorem dX9_init_6 : decode cX9_init 6 = .ok (.putfield 7, 3) := by decide +kernel
theorem dX9_init_9 : decode cX9_init 9 = .ok (.aload_n 0, 1) := by decide +kernel
theorem dX9_init_10 : decode cX9_init 10 = .ok (.aconst_null, 1) := by decide +kernel
theorem dX9_init_11 : decode cX9_init 11 = .ok (.putfield 13, 3) := by decide +kernel
theorem dX9_init_14 : decode cX9_init 14 = .ok (.aload_n 0, 1) := by decide +kernel
theorem dX9_init_15 : decode cX9_init 15 = .ok (.aconst_null, 1) := by decide +kernel
theorem dX9_init_16 : decode cX9_init 16 = .ok (.putfield 16, 3) := by decide +kernel
theorem dX9_init_19 : decode cX9_init 19 = .ok (.aload_n 0, 1) := by decide +kernel
theorem dX9_init_20 : decode cX9_init 20 = .ok (.aconst_null, 1) := by decide +kernel
theorem dX9_init_21 : decode cX9_init 21 = .ok (.putfield 19, 3) := by decide +kernel
theorem dX9_init_24 : decode cX9_init 24 = .ok (.aload_n 0, 1) := by decide +kernel
theorem dX9_init_25 : decode cX9_init 25 = .ok (.aconst_null, 1) := by decide +kernel
theorem dX9_init_26 : decode cX9_init 26 = .ok (.putfield 23, 3) := by decide +kernel
theorem dX9_init_29 : decode cX9_init 29 = .ok (.aload_n 0, 1) := by decide +kernel
theorem dX9_init_30 : decode cX9_init 30 = .ok (.iconst 0, 1) := by decide +kernel
theorem dX9_init_31 : decode cX9_init 31 = .ok (.putfield 27, 3) := by decide +kernel
theorem dX9_init_34 : decode cX9_init 34 = .ok (.aload_n 0, 1) := by decide +kernel
theorem dX9_init_35 : decode cX9_init 35 = .ok (.aconst_null, 1) := by decide +kernel
theorem dX9_init_36 : decode cX9_init 36 = .ok (.putfield 31, 3) := by decide +kernel
theorem dX9_init_39 : decode cX9_init 39 = .ok (.aload_n 0, 1) := by decide +kernel
theorem dX9_init_40 : decode cX9_init 40 = .ok (.iload_n 1, 1) := by decide +kernel
theorem dX9_init_41 : decode cX9_init 41 = .ok (.putfield 34, 3) := by decide +kernel
theorem dX9_init_44 : decode cX9_init 44 = .ok (.return_, 1) := by decide +kernel
theorem dX9_add_0 : decode cX9_add 0 = .ok (.aload_n 0, 1) := by decide +kernel
theorem dX9_add_1 : decode cX9_add 1 = .ok (.getfield 13, 3) := by decide +kernel
theorem dX9_add_4 : decode cX9_add 4 = .ok (.ifnonnull 11, 3) := by decide +kernel
theorem dX9_add_7 : decode cX9_add 7 = .ok (.aload_n 0, 1) := by decide +kernel
theorem dX9_add_8 : decode cX9_add 8 = .ok (.aload_n 1, 1) := by decide +kernel
theorem dX9_add_9 : decode cX9_add 9 = .ok (.putfield 7, 3) := by decide +kernel
theorem dX9_add_12 : decode cX9_add 12 = .ok (.goto 11, 3) := by decide +kernel
theorem dX9_add_15 : decode cX9_add 15 = .ok (.aload_n 0, 1) := by decide +kernel
theorem dX9_add_16 : decode cX9_add 16 = .ok (.getfield 13, 3) := by decide +kernel
theorem dX9_add_19 : decode cX9_add 19 = .ok (.aload_n 1, 1) := by decide +kernel
theorem dX9_add_20 : decode cX9_add 20 = .ok (.putfield 16, 3) := by decide +kernel
theorem dX9_add_23 : decode cX9_add 23 = .ok (.aload_n 0, 1) := by decide +kernel
theorem dX9_add_24 : decode cX9_add 24 = .ok (.aload_n 1, 1) := by decide +kernel
theorem dX9_add_25 : decode cX9_add 25 = .ok (.putfield 13, 3) := by decide +kernel
theorem dX9_add_28 : decode cX9_add 28 = .ok (.return_, 1) := by decide +kernel
theorem dX10_init_0 : decode cX10_init 0 = .ok (.aload_n 0, 1) := by decide +kernel
theorem dX10_init_1 : decode cX10_init 1 = .ok (.invokespecial 1, 3) := by decide +kernel
theorem dX10_init_4 : decode cX10_init 4 = .ok (.aload_n 0, 1) := by decide +kernel
theorem dX10_init_5 : decode cX10_init 5 = .ok (.aconst_null, 1) := by decide +kernel
theorem dX10_init_6 : decode cX10_init 6 = .ok (.putfield 7, 3) := by decide +kernel
theorem dX10_init_9 : decode cX10_init 9 = .ok (.aload_n 0, 1) := by decide +kernel
theorem dX10_init_10 : decode cX10_init 10 = .ok (.aconst_null, 1) := by decide +kernel
theorem dX10_init_11 : decode cX10_init 11 = .ok (.putfield 13, 3) := by decide +kernel
theorem dX10_init_14 : decode cX10_init 14 = .ok (.aload_n 0, 1) := by decide +kernel
theorem dX10_init_15 : decode cX10_init 15 = .ok (.new 17, 3) := by decide +kernel
theorem dX10_init_18 : decode cX10_init 18 = .ok (.dup, 1) := by decide +kernel
theorem dX10_init_19 : decode cX10_init 19 = .ok (.invokespecial 19, 3) := by decide +kernel
theorem dX10_init_22 : decode cX10_init 22 = .ok (.putfield 20, 3) := by decide +kernel
theorem dX10_init_25 : decode cX10_init 25 = .ok (.aload_n 0, 1) := by decide +kernel
theorem dX10_init_26 : decode cX10_init 26 = .ok (.iload_n 1, 1) := by decide +kernel
theorem dX10_init_27 : decode cX10_init 27 = .ok (.putfield 24, 3) := by decide +kernel
theorem dX10_init_30 : decode cX10_init 30 = .ok (.return_, 1) := by decide +kernel
theorem dX0_init_0 : decode cX0_init 0 = .ok (.aload_n 0, 1) := by decide +kernel
theorem dX0_init_1 : decode cX0_init 1 = .ok (.invokespecial 3, 3) := by decide +kernel
theorem dX0_init_4 : decode cX0_init 4 = .ok (.aload_n 0, 1) := by decide +kernel
theorem dX0_init_5 : decode cX0_init 5 = .ok (.ldc 9, 2) := by decide +kernel
theorem dX0_init_7 : decode cX0_init 7 = .ok (.putfield 11, 3) := by decide +kernel
theorem dX0_init_10 : decode cX0_init 10 = .ok (.aload_n 0, 1) := by decide +kernel
theorem dX0_init_11 : decode cX0_init 11 = .ok (.iconst 0, 1) := by decide +kernel
theorem dX0_init_12 : decode cX0_init 12 = .ok (.putfield 17, 3) := by decide +kernel
theorem dX0_init_15 : decode cX0_init 15 = .ok (.aload_n 0, 1) := by decide +kernel
theorem dX0_init_16 : decode cX0_init 16 = .ok (.iconst (-1), 1) := by decide +kernel
theorem dX0_init_17 : decode cX0_init 17 = .ok (.putfield 21, 3) := by decide +kernel
theorem dX0_init_20 : decode cX0_init 20 = .ok (.return_, 1) := by decide +kernel
theorem dX6_init_0 : decode cX6_init 0 = .ok (.aload_n 0, 1) := by decide +kernel
theorem dX6_init_1 : decode cX6_init 1 = .ok (.invokespecial 3, 3) := by decide +kernel
theorem dX6_init_4 : decode cX6_init 4 = .ok (.aload_n 0, 1) := by decide +kernel
theorem dX6_init_5 : decode cX6_init 5 = .ok (.sipush 300, 3) := by decide +kernel
theorem dX6_init_8 : decode cX6_init 8 = .ok (.newarray .int, 2) := by decide +kernel
theorem dX6_init_10 : decode cX6_init 10 = .ok (.putfield 9, 3) := by decide +kernel
theorem dX6_init_13 : decode cX6_init 13 = .ok (.aload_n 0, 1) := by decide +kernel
theorem dX6_init_14 : decode cX6_init 14 = .ok (.iconst 0, 1) := by decide +kernel
theorem dX6_init_15 : decode cX6_init 15 = .ok (.putfield 15, 3) := by decide +kernel
theorem dX6_init_18 : decode cX6_init 18 = .ok (.return_, 1) := by decide +kernel
def w_X1_appendPath (l : Launch) (G : mv_G) (d : Nat) (u0 : Nat) (u1 : Int32) (u2 : Nat) (h : mv_H) (Q : mv_O → mv_H → Prop) : Prop :=
  vob h u2 1 (
  mv_rq l G mJ4_append_cf468 d 0 (mv_in [.ref u2, .int 36] 2) [] h (vB (fun E h1 => Q (.inr E) h1) (fun x3 h3 =>
  mv_rq l G mX1_appendPath (d + 1) 9 [some (.ref u0), some (.int u1), some (.ref u2), some (.int 1)] [] h3 Q)))
theorem v_X1_appendPath {l : Launch} {G : mv_G} {d : Nat} {u0 : Nat} {u1 : Int32} {u2 : Nat} {h : mv_H} {Q : mv_O → mv_H → Prop} (hG : mv_ok G) (hq : w_X1_appendPath l G d u0 u1 u2 h Q) : mv_rq l G mX1_appendPath (d + 1) 0 (mv_in [.ref u0, .int u1, .ref u2] 4) [] h Q := by
  unfold w_X1_appendPath at hq
  show mv_rq l G mX1_appendPath (d + 1) 0 [some (.ref u0), some (.int u1), some (.ref u2), none] [] h _
  refine q_aload_n dX1_appendPath_0 rfl ?_
  refine q_bipush (v := 36) dX1_appendPath_1 (by decide) ?_
  obtain ⟨⟨fs3, f3⟩, hq⟩ := vob_e hq
  refine q_cV (Y := mJ4_append_cf468) (As := [.int 36]) (st := []) (b := u2) (ci := 1) vc_J4_append_cf468 dX1_appendPath_3 ml_RX1_72 rfl f3 rfl (Nat.le_of_ble_eq_true rfl) rfl (Nat.le_of_ble_eq_true rfl) hq (fun v h1 hq1 => ?_) (fun E h1 hq1 => ?_)
  rotate_left
  ·
    rcases hq1 with hq1 | ⟨E1, e1, hq1⟩
    · obtain ⟨_, z, _⟩ := hq1; exact nomatch z
    · obtain rfl := Sum.inr.inj e1; exact q_xout (fun z hz => nomatch hz) hq1
  rcases hq1 with hq1 | ⟨E1, e1, hq1⟩
  rotate_left
  · exact nomatch e1
  obtain ⟨x3, hv, hq⟩ := hq1
  obtain rfl := Sum.inl.inj hv
  clear hv
  obtain ⟨h3, eh3⟩ : ∃ z, z = h1 := ⟨_, rfl⟩
  rw [← eh3] at hq ⊢
  clear eh3
  show mv_rq l G mX1_appendPath (d + 1) 6 [some (.ref u0), some (.int u1), some (.ref u2), none] [.ref x3] h3 _
  refine q_pop dX1_appendPath_6 rfl ?_
  refine q_iconst (v := 1) dX1_appendPath_7 (by decide) ?_
  refine q_istore_n dX1_appendPath_8 (Nat.le_of_ble_eq_true rfl) rfl ?_
  show mv_rq l G mX1_appendPath (d + 1) 9 [some (.ref u0), some (.int u1), some (.ref u2), some (.int 1)] [] h3 _
  exact mv_weak (A := [some (.ref u0), some (.int u1), some (.ref u2), some (.int 1)]) (by repeat' constructor) hq
def w_X1_appendPath_9 (l : Launch) (G : mv_G) (d : Nat) (u0 : Nat) (u1 : Int32) (u2 : Nat) (u3 : Int32) (h : mv_H) (Q : mv_O → mv_H → Prop) : Prop :=
  vif (u1 < u3) (
    Q (.inl none) h) (
    vgb h u0 3 0 fun x15 =>
    vab G h x15 4 u3 fun x19 =>
    vgi h x19 13 7 fun x20 =>
    vif (x20 ≤ u1) (
      mv_rq l G mX1_appendPath (d + 1) 9 [some (.ref u0), some (.int u1), some (.ref u2), some (.int (u3 + 1))] [] h Q) (
      vgb h u0 3 0 fun x29 =>
      vab G h x29 4 u3 fun x33 =>
      vob h u0 3 (
      mv_rq l G mX1_appendStep d 0 (mv_in [.ref u0, .ref x33, .ref u2] 3) [] h (vU (fun E h1 => Q (.inr E) h1) (fun h35 =>
      mv_rq l G mX1_appendPath (d + 1) 9 [some (.ref u0), some (.int u1), some (.ref u2), some (.int (u3 + 1))] [] h35 Q)))))
theorem v_X1_appendPath_9 {l : Launch} {G : mv_G} {d : Nat} {u0 : Nat} {u1 : Int32} {u2 : Nat} {u3 : Int32} {h : mv_H} {Q : mv_O → mv_H → Prop} (hG : mv_ok G) (hq : w_X1_appendPath_9 l G d u0 u1 u2 u3 h Q) : mv_rq l G mX1_appendPath (d + 1) 9 [some (.ref u0), some (.int u1), some (.ref u2), some (.int u3)] [] h Q := by
  unfold w_X1_appendPath_9 at hq
  refine q_iload_n dX1_appendPath_9 rfl ?_
  refine q_iload_n dX1_appendPath_10 rfl ?_
  refine q_icmp_gt (tgt := 44) dX1_appendPath_11 (by decide) (fun c11 => ?_) (fun c11 => ?_)
  ·
    have hq := vif_t hq c11
    exact q_vret dX1_appendPath_44 rfl hq
  ·
    have hq := vif_f hq c11
    refine q_aload_n dX1_appendPath_14 rfl ?_
    obtain ⟨fs15, x15, f15, g15, hq⟩ := vgb_e hq
    refine q_getf (k := 0) (T := TX1) (C0 := RX1) (N := 4) (ci := 3) dX1_appendPath_15 fl_RX1_11 rfl uin_RX1 (by decide) rfl f15 g15 ?_
    refine q_iload_n dX1_appendPath_18 rfl ?_
    obtain ⟨n19, f19, x19, g19, i19, e19, hq⟩ := vab_e hq
    refine q_aald (t0 := 4) dX1_appendPath_19 (mv_ty hG (t := 4) rfl) g19 i19 ?_
    rw [e19]
    show mv_rq l G mX1_appendPath (d + 1) 20 [some (.ref u0), some (.int u1), some (.ref u2), some (.int u3)] [.ref x19] h _
    obtain ⟨fs20, x20, f20, g20, hq⟩ := vgi_e hq
    refine q_getf (k := 7) (T := TX11) (C0 := RX11) (N := 10) (ci := 13) dX1_appendPath_20 fl_RX1_78 rfl uin_RX11 (by decide) rfl f20 g20 ?_
    refine q_iload_n dX1_appendPath_23 rfl ?_
    refine q_icmp_le (tgt := 38) dX1_appendPath_24 (by decide) (fun c24 => ?_) (fun c24 => ?_)
    ·
      have hq := vif_t hq c24
      refine q_iinc dX1_appendPath_38 rfl rfl ?_
      show mv_rq l G mX1_appendPath (d + 1) 41 [some (.ref u0), some (.int u1), some (.ref u2), some (.int (u3 + 1))] [] h _
      refine q_goto (tgt := 9) dX1_appendPath_41 (by decide) ?_
      exact mv_weak (A := [some (.ref u0), some (.int u1), some (.ref u2), some (.int (u3 + 1))]) (by repeat' constructor) hq
    ·
      have hq := vif_f hq c24
      refine q_aload_n dX1_appendPath_27 rfl ?_
      refine q_aload_n dX1_appendPath_28 rfl ?_
      obtain ⟨fs29, x29, f29, g29, hq⟩ := vgb_e hq
      refine q_getf (k := 0) (T := TX1) (C0 := RX1) (N := 4) (ci := 3) dX1_appendPath_29 fl_RX1_11 rfl uin_RX1 (by decide) rfl f29 g29 ?_
      refine q_iload_n dX1_appendPath_32 rfl ?_
      obtain ⟨n33, f33, x33, g33, i33, e33, hq⟩ := vab_e hq
      refine q_aald (t0 := 4) dX1_appendPath_33 (mv_ty hG (t := 4) rfl) g33 i33 ?_
      rw [e33]
      show mv_rq l G mX1_appendPath (d + 1) 34 [some (.ref u0), some (.int u1), some (.ref u2), some (.int u3)] [.ref x33, .ref u0] h _
      refine q_aload_n dX1_appendPath_34 rfl ?_
      obtain ⟨⟨fs35, f35⟩, hq⟩ := vob_e hq
      refine q_cV (Y := mX1_appendStep) (As := [.ref x33, .ref u2]) (st := []) (b := u0) (ci := 3) vc_X1_appendStep dX1_appendPath_35 ml_RX1_81 rfl f35 rfl (Nat.le_of_ble_eq_true rfl) rfl (Nat.le_of_ble_eq_true rfl) hq (fun v h1 hq1 => ?_) (fun E h1 hq1 => ?_)
      rotate_left
      ·
        rcases hq1 with hq1 | ⟨E1, e1, hq1⟩
        · exact nomatch hq1.1
        · obtain rfl := Sum.inr.inj e1; exact q_xout (fun z hz => nomatch hz) hq1
      rcases hq1 with hq1 | ⟨E1, e1, hq1⟩
      rotate_left
      · exact nomatch e1
      obtain ⟨hv, hq⟩ := hq1
      obtain rfl := Sum.inl.inj hv
      clear hv
      obtain ⟨h35, eh35⟩ : ∃ z, z = h1 := ⟨_, rfl⟩
      rw [← eh35] at hq ⊢
      clear eh35
      show mv_rq l G mX1_appendPath (d + 1) 38 [some (.ref u0), some (.int u1), some (.ref u2), some (.int u3)] [] h35 _
      refine q_iinc dX1_appendPath_38 rfl rfl ?_
      show mv_rq l G mX1_appendPath (d + 1) 41 [some (.ref u0), some (.int u1), some (.ref u2), some (.int (u3 + 1))] [] h35 _
      refine q_goto (tgt := 9) dX1_appendPath_41 (by decide) ?_
      exact mv_weak (A := [some (.ref u0), some (.int u1), some (.ref u2), some (.int (u3 + 1))]) (by repeat' constructor) hq
def w_X1_appendStep (l : Launch) (G : mv_G) (d : Nat) (u0 : Nat) (u1 : Nat) (u2 : Nat) (h : mv_H) (Q : mv_O → mv_H → Prop) : Prop :=
  vgb h u0 3 0 fun x1 =>
  vgi h u1 13 5 fun x5 =>
  vab G h x1 4 x5 fun x8 =>
  vgi h x8 13 0 fun x9 =>
  vif (x9 = 6) (
    vst G RX1 85 "['" fun a18 =>
    vob h u2 1 (
    mv_rq l G mJ4_append_15ec4 d 0 (mv_in [.ref u2, .ref a18] 2) [] h (vB (fun E h1 => Q (.inr E) h1) (fun x20 h20 =>
    vgb h20 u1 13 4 fun x24 =>
    vob h20 x20 1 (
    mv_rq l G mJ4_append_15ec4 d 0 (mv_in [.ref x20, .ref x24] 2) [] h20 (vB (fun E h1 => Q (.inr E) h1) (fun x27 h27 =>
    vst G RX1 90 "']" fun a30 =>
    vob h27 x27 1 (
    mv_rq l G mJ4_append_15ec4 d 0 (mv_in [.ref x27, .ref a30] 2) [] h27 (vB (fun E h1 => Q (.inr E) h1) (fun x32 h32 =>
    Q (.inl none) h32)))))))))) (
    vob h u2 1 (
    mv_rq l G mJ4_append_cf468 d 0 (mv_in [.ref u2, .int 91] 2) [] h (vB (fun E h1 => Q (.inr E) h1) (fun x42 h42 =>
    vgi h42 u1 13 6 fun x46 =>
    vob h42 x42 1 (
    mv_rq l G mJ4_append_bf812 d 0 (mv_in [.ref x42, .int x46] 2) [] h42 (vB (fun E h1 => Q (.inr E) h1) (fun x49 h49 =>
    vob h49 x49 1 (
    mv_rq l G mJ4_append_cf468 d 0 (mv_in [.ref x49, .int 93] 2) [] h49 (vB (fun E h1 => Q (.inr E) h1) (fun x54 h54 =>
    Q (.inl none) h54))))))))))
theorem v_X1_appendStep {l : Launch} {G : mv_G} {d : Nat} {u0 : Nat} {u1 : Nat} {u2 : Nat} {h : mv_H} {Q : mv_O → mv_H → Prop} (hG : mv_ok G) (hq : w_X1_appendStep l G d u0 u1 u2 h Q) : mv_rq l G mX1_appendStep (d + 1) 0 (mv_in [.ref u0, .ref u1, .ref u2] 3) [] h Q := by
  unfold w_X1_appendStep at hq
  show mv_rq l G mX1_appendStep (d + 1) 0 [some (.ref u0), some (.ref u1), some (.ref u2)] [] h _
  refine q_aload_n dX1_appendStep_0 rfl ?_
  obtain ⟨fs1, x1, f1, g1, hq⟩ := vgb_e hq
  refine q_getf (k := 0) (T := TX1) (C0 := RX1) (N := 4) (ci := 3) dX1_appendStep_1 fl_RX1_11 rfl uin_RX1 (by decide) rfl f1 g1 ?_
  refine q_aload_n dX1_appendStep_4 rfl ?_
  obtain ⟨fs5, x5, f5, g5, hq⟩ := vgi_e hq
  refine q_getf (k := 5) (T := TX11) (C0 := RX11) (N := 10) (ci := 13) dX1_appendStep_5 fl_RX1_43 rfl uin_RX11 (by decide) rfl f5 g5 ?_
  obtain ⟨n8, f8, x8, g8, i8, e8, hq⟩ := vab_e hq
  refine q_aald (t0 := 4) dX1_appendStep_8 (mv_ty hG (t := 4) rfl) g8 i8 ?_
  rw [e8]
  show mv_rq l G mX1_appendStep (d + 1) 9 [some (.ref u0), some (.ref u1), some (.ref u2)] [.ref x8] h _
  obtain ⟨fs9, x9, f9, g9, hq⟩ := vgi_e hq
  refine q_getf (k := 0) (T := TX11) (C0 := RX11) (N := 10) (ci := 13) dX1_appendStep_9 fl_RX1_63 rfl uin_RX11 (by decide) rfl f9 g9 ?_
  refine q_bipush (v := 6) dX1_appendStep_12 (by decide) ?_
  refine q_icmp_ne (tgt := 39) dX1_appendStep_14 (by decide) (fun c14 => ?_) (fun c14 => ?_)
  ·
    have hq := vif_f hq c14
    refine q_aload_n dX1_appendStep_39 rfl ?_
    refine q_bipush (v := 91) dX1_appendStep_40 (by decide) ?_
    obtain ⟨⟨fs42, f42⟩, hq⟩ := vob_e hq
    refine q_cV (Y := mJ4_append_cf468) (As := [.int 91]) (st := []) (b := u2) (ci := 1) vc_J4_append_cf468 dX1_appendStep_42 ml_RX1_72 rfl f42 rfl (Nat.le_of_ble_eq_true rfl) rfl (Nat.le_of_ble_eq_true rfl) hq (fun v h1 hq1 => ?_) (fun E h1 hq1 => ?_)
    rotate_left
    ·
      rcases hq1 with hq1 | ⟨E1, e1, hq1⟩
      · obtain ⟨_, z, _⟩ := hq1; exact nomatch z
      · obtain rfl := Sum.inr.inj e1; exact q_xout (fun z hz => nomatch hz) hq1
    rcases hq1 with hq1 | ⟨E1, e1, hq1⟩
    rotate_left
    · exact nomatch e1
    obtain ⟨x42, hv, hq⟩ := hq1
    obtain rfl := Sum.inl.inj hv
    clear hv
    obtain ⟨h42, eh42⟩ : ∃ z, z = h1 := ⟨_, rfl⟩
    rw [← eh42] at hq ⊢
    clear eh42
    show mv_rq l G mX1_appendStep (d + 1) 45 [some (.ref u0), some (.ref u1), some (.ref u2)] [.ref x42] h42 _
    refine q_aload_n dX1_appendStep_45 rfl ?_
    obtain ⟨fs46, x46, f46, g46, hq⟩ := vgi_e hq
    refine q_getf (k := 6) (T := TX11) (C0 := RX11) (N := 10) (ci := 13) dX1_appendStep_46 fl_RX1_49 rfl uin_RX11 (by decide) rfl f46 g46 ?_
    obtain ⟨⟨fs49, f49⟩, hq⟩ := vob_e hq
    refine q_cV (Y := mJ4_append_bf812) (As := [.int x46]) (st := []) (b := x42) (ci := 1) vc_J4_append_bf812 dX1_appendStep_49 ml_RX1_92 rfl f49 rfl (Nat.le_of_ble_eq_true rfl) rfl (Nat.le_of_ble_eq_true rfl) hq (fun v h1 hq1 => ?_) (fun E h1 hq1 => ?_)
    rotate_left
    ·
      rcases hq1 with hq1 | ⟨E1, e1, hq1⟩
      · obtain ⟨_, z, _⟩ := hq1; exact nomatch z
      · obtain rfl := Sum.inr.inj e1; exact q_xout (fun z hz => nomatch hz) hq1
    rcases hq1 with hq1 | ⟨E1, e1, hq1⟩
    rotate_left
    · exact nomatch e1
    obtain ⟨x49, hv, hq⟩ := hq1
    obtain rfl := Sum.inl.inj hv
    clear hv
    obtain ⟨h49, eh49⟩ : ∃ z, z = h1 := ⟨_, rfl⟩
    rw [← eh49] at hq ⊢
    clear eh49
    show mv_rq l G mX1_appendStep (d + 1) 52 [some (.ref u0), some (.ref u1), some (.ref u2)] [.ref x49] h49 _
    refine q_bipush (v := 93) dX1_appendStep_52 (by decide) ?_
    obtain ⟨⟨fs54, f54⟩, hq⟩ := vob_e hq
    refine q_cV (Y := mJ4_append_cf468) (As := [.int 93]) (st := []) (b := x49) (ci := 1) vc_J4_append_cf468 dX1_appendStep_54 ml_RX1_72 rfl f54 rfl (Nat.le_of_ble_eq_true rfl) rfl (Nat.le_of_ble_eq_true rfl) hq (fun v h1 hq1 => ?_) (fun E h1 hq1 => ?_)
    rotate_left
    ·
      rcases hq1 with hq1 | ⟨E1, e1, hq1⟩
      · obtain ⟨_, z, _⟩ := hq1; exact nomatch z
      · obtain rfl := Sum.inr.inj e1; exact q_xout (fun z hz => nomatch hz) hq1
    rcases hq1 with hq1 | ⟨E1, e1, hq1⟩
    rotate_left
    · exact nomatch e1
    obtain ⟨x54, hv, hq⟩ := hq1
    obtain rfl := Sum.inl.inj hv
    clear hv
    obtain ⟨h54, eh54⟩ : ∃ z, z = h1 := ⟨_, rfl⟩
    rw [← eh54] at hq ⊢
    clear eh54
    show mv_rq l G mX1_appendStep (d + 1) 57 [some (.ref u0), some (.ref u1), some (.ref u2)] [.ref x54] h54 _
    refine q_pop dX1_appendStep_57 rfl ?_
    exact q_vret dX1_appendStep_58 rfl hq
  ·
    have hq := vif_t hq c14
    refine q_aload_n dX1_appendStep_17 rfl ?_
    obtain ⟨a18, ea18, hq⟩ := vst_e hq
    refine q_ldcS dX1_appendStep_18 ea18 ?_
    obtain ⟨⟨fs20, f20⟩, hq⟩ := vob_e hq
    refine q_cV (Y := mJ4_append_15ec4) (As := [.ref a18]) (st := []) (b := u2) (ci := 1) vc_J4_append_15ec4 dX1_appendStep_20 ml_RX1_87 rfl f20 rfl (Nat.le_of_ble_eq_true rfl) rfl (Nat.le_of_ble_eq_true rfl) hq (fun v h1 hq1 => ?_) (fun E h1 hq1 => ?_)
    rotate_left
    ·
      rcases hq1 with hq1 | ⟨E1, e1, hq1⟩
      · obtain ⟨_, z, _⟩ := hq1; exact nomatch z
      · obtain rfl := Sum.inr.inj e1; exact q_xout (fun z hz => nomatch hz) hq1
    rcases hq1 with hq1 | ⟨E1, e1, hq1⟩
    rotate_left
    · exact nomatch e1
    obtain ⟨x20, hv, hq⟩ := hq1
    obtain rfl := Sum.inl.inj hv
    clear hv
    obtain ⟨h20, eh20⟩ : ∃ z, z = h1 := ⟨_, rfl⟩
    rw [← eh20] at hq ⊢
    clear eh20
    show mv_rq l G mX1_appendStep (d + 1) 23 [some (.ref u0), some (.ref u1), some (.ref u2)] [.ref x20] h20 _
    refine q_aload_n dX1_appendStep_23 rfl ?_
    obtain ⟨fs24, x24, f24, g24, hq⟩ := vgb_e hq
    refine q_getf (k := 4) (T := TX11) (C0 := RX11) (N := 10) (ci := 13) dX1_appendStep_24 fl_RX1_40 rfl uin_RX11 (by decide) rfl f24 g24 ?_
    obtain ⟨⟨fs27, f27⟩, hq⟩ := vob_e hq
    refine q_cV (Y := mJ4_append_15ec4) (As := [.ref x24]) (st := []) (b := x20) (ci := 1) vc_J4_append_15ec4 dX1_appendStep_27 ml_RX1_87 rfl f27 rfl (Nat.le_of_ble_eq_true rfl) rfl (Nat.le_of_ble_eq_true rfl) hq (fun v h1 hq1 => ?_) (fun E h1 hq1 => ?_)
    rotate_left
    ·
      rcases hq1 with hq1 | ⟨E1, e1, hq1⟩
      · obtain ⟨_, z, _⟩ := hq1; exact nomatch z
      · obtain rfl := Sum.inr.inj e1; exact q_xout (fun z hz => nomatch hz) hq1
    rcases hq1 with hq1 | ⟨E1, e1, hq1⟩
    rotate_left
    · exact nomatch e1
    obtain ⟨x27, hv, hq⟩ := hq1
    obtain rfl := Sum.inl.inj hv
    clear hv
    obtain ⟨h27, eh27⟩ : ∃ z, z = h1 := ⟨_, rfl⟩
    rw [← eh27] at hq ⊢
    clear eh27
    show mv_rq l G mX1_appendStep (d + 1) 30 [some (.ref u0), some (.ref u1), some (.ref u2)] [.ref x27] h27 _
    obtain ⟨a30, ea30, hq⟩ := vst_e hq
    refine q_ldcS dX1_appendStep_30 ea30 ?_
    obtain ⟨⟨fs32, f32⟩, hq⟩ := vob_e hq
    refine q_cV (Y := mJ4_append_15ec4) (As := [.ref a30]) (st := []) (b := x27) (ci := 1) vc_J4_append_15ec4 dX1_appendStep_32 ml_RX1_87 rfl f32 rfl (Nat.le_of_ble_eq_true rfl) rfl (Nat.le_of_ble_eq_true rfl) hq (fun v h1 hq1 => ?_) (fun E h1 hq1 => ?_)
    rotate_left
    ·
      rcases hq1 with hq1 | ⟨E1, e1, hq1⟩
      · obtain ⟨_, z, _⟩ := hq1; exact nomatch z
      · obtain rfl := Sum.inr.inj e1; exact q_xout (fun z hz => nomatch hz) hq1
    rcases hq1 with hq1 | ⟨E1, e1, hq1⟩
    rotate_left
    · exact nomatch e1
    obtain ⟨x32, hv, hq⟩ := hq1
    obtain rfl := Sum.inl.inj hv
    clear hv
    obtain ⟨h32, eh32⟩ : ∃ z, z = h1 := ⟨_, rfl⟩
    rw [← eh32] at hq ⊢
    clear eh32
    show mv_rq l G mX1_appendStep (d + 1) 35 [some (.ref u0), some (.ref u1), some (.ref u2)] [.ref x32] h32 _
    refine q_pop dX1_appendStep_35 rfl ?_
    refine q_goto (tgt := 58) dX1_appendStep_36 (by decide) ?_
    exact q_vret dX1_appendStep_58 rfl hq
def w_X1_sourceCharacter (l : Launch) (G : mv_G) (d : Nat) (u0 : Nat) (u1 : Int32) (u2 : Int32) (h : mv_H) (Q : mv_O → mv_H → Prop) : Prop :=
  vgb h u0 3 0 fun x6 =>
  vab G h x6 4 u1 fun x10 =>
  vgi h x10 13 8 fun x11 =>
  mv_rq l G mX1_sourceCharacter (d + 1) 16 [some (.ref u0), some (.int u1), none, some (.int 0), some (.int u2), some (.int x11), none] [] h Q
theorem v_X1_sourceCharacter {l : Launch} {G : mv_G} {d : Nat} {u0 : Nat} {u1 : Int32} {u2 : Int32} {h : mv_H} {Q : mv_O → mv_H → Prop} (hG : mv_ok G) (hq : w_X1_sourceCharacter l G d u0 u1 u2 h Q) : mv_rq l G mX1_sourceCharacter (d + 1) 0 (mv_in [.ref u0, .int u1, .int u2] 7) [] h Q := by
  unfold w_X1_sourceCharacter at hq
  show mv_rq l G mX1_sourceCharacter (d + 1) 0 [some (.ref u0), some (.int u1), some (.int u2), none, none, none, none] [] h _
  refine q_iconst (v := 0) dX1_sourceCharacter_0 (by decide) ?_
  refine q_istore_n dX1_sourceCharacter_1 (Nat.le_of_ble_eq_true rfl) rfl ?_
  show mv_rq l G mX1_sourceCharacter (d + 1) 2 [some (.ref u0), some (.int u1), some (.int u2), some (.int 0), none, none, none] [] h _
  refine q_iload_n dX1_sourceCharacter_2 rfl ?_
  refine q_istore dX1_sourceCharacter_3 (Nat.le_of_ble_eq_true rfl) rfl ?_
  show mv_rq l G mX1_sourceCharacter (d + 1) 5 [some (.ref u0), some (.int u1), some (.int u2), some (.int 0), some (.int u2), none, none] [] h _
  refine q_aload_n dX1_sourceCharacter_5 rfl ?_
  obtain ⟨fs6, x6, f6, g6, hq⟩ := vgb_e hq
  refine q_getf (k := 0) (T := TX1) (C0 := RX1) (N := 4) (ci := 3) dX1_sourceCharacter_6 fl_RX1_11 rfl uin_RX1 (by decide) rfl f6 g6 ?_
  refine q_iload_n dX1_sourceCharacter_9 rfl ?_
  obtain ⟨n10, f10, x10, g10, i10, e10, hq⟩ := vab_e hq
  refine q_aald (t0 := 4) dX1_sourceCharacter_10 (mv_ty hG (t := 4) rfl) g10 i10 ?_
  rw [e10]
  show mv_rq l G mX1_sourceCharacter (d + 1) 11 [some (.ref u0), some (.int u1), some (.int u2), some (.int 0), some (.int u2), none, none] [.ref x10] h _
  obtain ⟨fs11, x11, f11, g11, hq⟩ := vgi_e hq
  refine q_getf (k := 8) (T := TX11) (C0 := RX11) (N := 10) (ci := 13) dX1_sourceCharacter_11 fl_RX1_46 rfl uin_RX11 (by decide) rfl f11 g11 ?_
  refine q_istore dX1_sourceCharacter_14 (Nat.le_of_ble_eq_true rfl) rfl ?_
  show mv_rq l G mX1_sourceCharacter (d + 1) 16 [some (.ref u0), some (.int u1), some (.int u2), some (.int 0), some (.int u2), some (.int x11), none] [] h _
  exact mv_weak (A := [some (.ref u0), some (.int u1), none, some (.int 0), some (.int u2), some (.int x11), none]) (by repeat' constructor) hq
def w_X1_sourceCharacter_16 (l : Launch) (G : mv_G) (d : Nat) (u0 : Nat) (u1 : Int32) (u3 : Int32) (u4 : Int32) (u5 : Int32) (h : mv_H) (Q : mv_O → mv_H → Prop) : Prop :=
  vgb h u0 3 0 fun x19 =>
  vab G h x19 4 u1 fun x23 =>
  vgi h x23 13 9 fun x24 =>
  vif (x24 ≤ u5) (
    Q (.inl (some (.int 0))) h) (
    vgb h u0 3 2 fun x31 =>
    vob h x31 0 (
    mv_rq l G mJ0_charAt_5068e d 0 (mv_in [.ref x31, .int u5] 2) [] h (vI (fun E h1 => Q (.inr E) h1) (fun x36 h36 =>
    vif (x36 = 34) (
      vif (u3 = 0) (
        vif (u4 = 0) (
          Q (.inl (some (.int x36))) h36) (
          mv_rq l G mX1_sourceCharacter (d + 1) 16 [some (.ref u0), some (.int u1), none, some (.int 1), some (.int (u4 + (-1))), some (.int (u5 + 1)), none] [] h36 Q)) (
        vif (x36 = 32) (
          mv_rq l G mX1_sourceCharacter (d + 1) 16 [some (.ref u0), some (.int u1), none, some (.int 0), some (.int u4), some (.int (u5 + 1)), none] [] h36 Q) (
          vif (u4 = 0) (
            Q (.inl (some (.int x36))) h36) (
            mv_rq l G mX1_sourceCharacter (d + 1) 16 [some (.ref u0), some (.int u1), none, some (.int 0), some (.int (u4 + (-1))), some (.int (u5 + 1)), none] [] h36 Q)))) (
      vif (u3 = 0) (
        vif (x36 = 32) (
          mv_rq l G mX1_sourceCharacter (d + 1) 16 [some (.ref u0), some (.int u1), none, some (.int u3), some (.int u4), some (.int (u5 + 1)), none] [] h36 Q) (
          vif (u4 = 0) (
            Q (.inl (some (.int x36))) h36) (
            mv_rq l G mX1_sourceCharacter (d + 1) 16 [some (.ref u0), some (.int u1), none, some (.int u3), some (.int (u4 + (-1))), some (.int (u5 + 1)), none] [] h36 Q))) (
        vif (u4 = 0) (
          Q (.inl (some (.int x36))) h36) (
          mv_rq l G mX1_sourceCharacter (d + 1) 16 [some (.ref u0), some (.int u1), none, some (.int u3), some (.int (u4 + (-1))), some (.int (u5 + 1)), none] [] h36 Q)))))))
theorem v_X1_sourceCharacter_16 {l : Launch} {G : mv_G} {d : Nat} {u0 : Nat} {u1 : Int32} {u3 : Int32} {u4 : Int32} {u5 : Int32} {h : mv_H} {Q : mv_O → mv_H → Prop} (hG : mv_ok G) (hq : w_X1_sourceCharacter_16 l G d u0 u1 u3 u4 u5 h Q) : mv_rq l G mX1_sourceCharacter (d + 1) 16 [some (.ref u0), some (.int u1), none, some (.int u3), some (.int u4), some (.int u5), none] [] h Q := by
  unfold w_X1_sourceCharacter_16 at hq
  refine q_iload dX1_sourceCharacter_16 rfl ?_
  refine q_aload_n dX1_sourceCharacter_18 rfl ?_
  obtain ⟨fs19, x19, f19, g19, hq⟩ := vgb_e hq
  refine q_getf (k := 0) (T := TX1) (C0 := RX1) (N := 4) (ci := 3) dX1_sourceCharacter_19 fl_RX1_11 rfl uin_RX1 (by decide) rfl f19 g19 ?_
  refine q_iload_n dX1_sourceCharacter_22 rfl ?_
  obtain ⟨n23, f23, x23, g23, i23, e23, hq⟩ := vab_e hq
  refine q_aald (t0 := 4) dX1_sourceCharacter_23 (mv_ty hG (t := 4) rfl) g23 i23 ?_
  rw [e23]
  show mv_rq l G mX1_sourceCharacter (d + 1) 24 [some (.ref u0), some (.int u1), none, some (.int u3), some (.int u4), some (.int u5), none] [.ref x23, .int u5] h _
  obtain ⟨fs24, x24, f24, g24, hq⟩ := vgi_e hq
  refine q_getf (k := 9) (T := TX11) (C0 := RX11) (N := 10) (ci := 13) dX1_sourceCharacter_24 fl_RX1_95 rfl uin_RX11 (by decide) rfl f24 g24 ?_
  refine q_icmp_ge (tgt := 86) dX1_sourceCharacter_27 (by decide) (fun c27 => ?_) (fun c27 => ?_)
  ·
    have hq := vif_t hq c27
    refine q_iconst (v := 0) dX1_sourceCharacter_86 (by decide) ?_
    exact q_iret (ty := .int) dX1_sourceCharacter_87 rfl rfl hq
  ·
    have hq := vif_f hq c27
    refine q_aload_n dX1_sourceCharacter_30 rfl ?_
    obtain ⟨fs31, x31, f31, g31, hq⟩ := vgb_e hq
    refine q_getf (k := 2) (T := TX1) (C0 := RX1) (N := 4) (ci := 3) dX1_sourceCharacter_31 fl_RX1_24 rfl uin_RX1 (by decide) rfl f31 g31 ?_
    refine q_iload dX1_sourceCharacter_34 rfl ?_
    obtain ⟨⟨fs36, f36⟩, hq⟩ := vob_e hq
    refine q_cV (Y := mJ0_charAt_5068e) (As := [.int u5]) (st := []) (b := x31) (ci := 0) vc_J0_charAt_5068e dX1_sourceCharacter_36 ml_RX1_98 rfl f36 rfl (Nat.le_of_ble_eq_true rfl) rfl (Nat.le_of_ble_eq_true rfl) hq (fun v h1 hq1 => ?_) (fun E h1 hq1 => ?_)
    rotate_left
    ·
      rcases hq1 with hq1 | ⟨E1, e1, hq1⟩
      · obtain ⟨_, z, _⟩ := hq1; exact nomatch z
      · obtain rfl := Sum.inr.inj e1; exact q_xout (fun z hz => nomatch hz) hq1
    rcases hq1 with hq1 | ⟨E1, e1, hq1⟩
    rotate_left
    · exact nomatch e1
    obtain ⟨x36, hv, hq⟩ := hq1
    obtain rfl := Sum.inl.inj hv
    clear hv
    obtain ⟨h36, eh36⟩ : ∃ z, z = h1 := ⟨_, rfl⟩
    rw [← eh36] at hq ⊢
    clear eh36
    show mv_rq l G mX1_sourceCharacter (d + 1) 39 [some (.ref u0), some (.int u1), none, some (.int u3), some (.int u4), some (.int u5), none] [.int x36] h36 _
    refine q_istore dX1_sourceCharacter_39 (Nat.le_of_ble_eq_true rfl) rfl ?_
    show mv_rq l G mX1_sourceCharacter (d + 1) 41 [some (.ref u0), some (.int u1), none, some (.int u3), some (.int u4), some (.int u5), some (.int x36)] [] h36 _
    refine q_iload dX1_sourceCharacter_41 rfl ?_
    refine q_bipush (v := 34) dX1_sourceCharacter_43 (by decide) ?_
    refine q_icmp_ne (tgt := 58) dX1_sourceCharacter_45 (by decide) (fun c45 => ?_) (fun c45 => ?_)
    ·
      have hq := vif_f hq c45
      refine q_iload_n dX1_sourceCharacter_58 rfl ?_
      refine q_if_ne (tgt := 69) dX1_sourceCharacter_59 (by decide) (fun c59 => ?_) (fun c59 => ?_)
      ·
        have hq := vif_f hq c59
        refine q_iload dX1_sourceCharacter_69 rfl ?_
        refine q_if_ne (tgt := 77) dX1_sourceCharacter_71 (by decide) (fun c71 => ?_) (fun c71 => ?_)
        ·
          have hq := vif_f hq c71
          refine q_iinc dX1_sourceCharacter_77 rfl rfl ?_
          show mv_rq l G mX1_sourceCharacter (d + 1) 80 [some (.ref u0), some (.int u1), none, some (.int u3), some (.int (u4 + (-1))), some (.int u5), some (.int x36)] [] h36 _
          refine q_iinc dX1_sourceCharacter_80 rfl rfl ?_
          show mv_rq l G mX1_sourceCharacter (d + 1) 83 [some (.ref u0), some (.int u1), none, some (.int u3), some (.int (u4 + (-1))), some (.int (u5 + 1)), some (.int x36)] [] h36 _
          refine q_goto (tgt := 16) dX1_sourceCharacter_83 (by decide) ?_
          exact mv_weak (A := [some (.ref u0), some (.int u1), none, some (.int u3), some (.int (u4 + (-1))), some (.int (u5 + 1)), none]) (by repeat' constructor) hq
        ·
          have hq := vif_t hq c71
          refine q_iload dX1_sourceCharacter_74 rfl ?_
          exact q_iret (ty := .int) dX1_sourceCharacter_76 rfl rfl hq
      ·
        have hq := vif_t hq c59
        refine q_iload dX1_sourceCharacter_62 rfl ?_
        refine q_bipush (v := 32) dX1_sourceCharacter_64 (by decide) ?_
        refine q_icmp_eq (tgt := 80) dX1_sourceCharacter_66 (by decide) (fun c66 => ?_) (fun c66 => ?_)
        ·
          have hq := vif_t hq c66
          refine q_iinc dX1_sourceCharacter_80 rfl rfl ?_
          show mv_rq l G mX1_sourceCharacter (d + 1) 83 [some (.ref u0), some (.int u1), none, some (.int u3), some (.int u4), some (.int (u5 + 1)), some (.int x36)] [] h36 _
          refine q_goto (tgt := 16) dX1_sourceCharacter_83 (by decide) ?_
          exact mv_weak (A := [some (.ref u0), some (.int u1), none, some (.int u3), some (.int u4), some (.int (u5 + 1)), none]) (by repeat' constructor) hq
        ·
          have hq := vif_f hq c66
          refine q_iload dX1_sourceCharacter_69 rfl ?_
          refine q_if_ne (tgt := 77) dX1_sourceCharacter_71 (by decide) (fun c71 => ?_) (fun c71 => ?_)
          ·
            have hq := vif_f hq c71
            refine q_iinc dX1_sourceCharacter_77 rfl rfl ?_
            show mv_rq l G mX1_sourceCharacter (d + 1) 80 [some (.ref u0), some (.int u1), none, some (.int u3), some (.int (u4 + (-1))), some (.int u5), some (.int x36)] [] h36 _
            refine q_iinc dX1_sourceCharacter_80 rfl rfl ?_
            show mv_rq l G mX1_sourceCharacter (d + 1) 83 [some (.ref u0), some (.int u1), none, some (.int u3), some (.int (u4 + (-1))), some (.int (u5 + 1)), some (.int x36)] [] h36 _
            refine q_goto (tgt := 16) dX1_sourceCharacter_83 (by decide) ?_
            exact mv_weak (A := [some (.ref u0), some (.int u1), none, some (.int u3), some (.int (u4 + (-1))), some (.int (u5 + 1)), none]) (by repeat' constructor) hq
          ·
            have hq := vif_t hq c71
            refine q_iload dX1_sourceCharacter_74 rfl ?_
            exact q_iret (ty := .int) dX1_sourceCharacter_76 rfl rfl hq
    ·
      have hq := vif_t hq c45
      refine q_iload_n dX1_sourceCharacter_48 rfl ?_
      refine q_if_ne (tgt := 56) dX1_sourceCharacter_49 (by decide) (fun c49 => ?_) (fun c49 => ?_)
      ·
        have hq := vif_f hq c49
        refine q_iconst (v := 0) dX1_sourceCharacter_56 (by decide) ?_
        refine q_istore_n dX1_sourceCharacter_57 (Nat.le_of_ble_eq_true rfl) rfl ?_
        show mv_rq l G mX1_sourceCharacter (d + 1) 58 [some (.ref u0), some (.int u1), none, some (.int 0), some (.int u4), some (.int u5), some (.int x36)] [] h36 _
        refine q_iload_n dX1_sourceCharacter_58 rfl ?_
        refine q_if_ne (tgt := 69) dX1_sourceCharacter_59 (by decide) (fun z => absurd z (by decide)) (fun _ => ?_)
        refine q_iload dX1_sourceCharacter_62 rfl ?_
        refine q_bipush (v := 32) dX1_sourceCharacter_64 (by decide) ?_
        refine q_icmp_eq (tgt := 80) dX1_sourceCharacter_66 (by decide) (fun c66 => ?_) (fun c66 => ?_)
        ·
          have hq := vif_t hq c66
          refine q_iinc dX1_sourceCharacter_80 rfl rfl ?_
          show mv_rq l G mX1_sourceCharacter (d + 1) 83 [some (.ref u0), some (.int u1), none, some (.int 0), some (.int u4), some (.int (u5 + 1)), some (.int x36)] [] h36 _
          refine q_goto (tgt := 16) dX1_sourceCharacter_83 (by decide) ?_
          exact mv_weak (A := [some (.ref u0), some (.int u1), none, some (.int 0), some (.int u4), some (.int (u5 + 1)), none]) (by repeat' constructor) hq
        ·
          have hq := vif_f hq c66
          refine q_iload dX1_sourceCharacter_69 rfl ?_
          refine q_if_ne (tgt := 77) dX1_sourceCharacter_71 (by decide) (fun c71 => ?_) (fun c71 => ?_)
          ·
            have hq := vif_f hq c71
            refine q_iinc dX1_sourceCharacter_77 rfl rfl ?_
            show mv_rq l G mX1_sourceCharacter (d + 1) 80 [some (.ref u0), some (.int u1), none, some (.int 0), some (.int (u4 + (-1))), some (.int u5), some (.int x36)] [] h36 _
            refine q_iinc dX1_sourceCharacter_80 rfl rfl ?_
            show mv_rq l G mX1_sourceCharacter (d + 1) 83 [some (.ref u0), some (.int u1), none, some (.int 0), some (.int (u4 + (-1))), some (.int (u5 + 1)), some (.int x36)] [] h36 _
            refine q_goto (tgt := 16) dX1_sourceCharacter_83 (by decide) ?_
            exact mv_weak (A := [some (.ref u0), some (.int u1), none, some (.int 0), some (.int (u4 + (-1))), some (.int (u5 + 1)), none]) (by repeat' constructor) hq
          ·
            have hq := vif_t hq c71
            refine q_iload dX1_sourceCharacter_74 rfl ?_
            exact q_iret (ty := .int) dX1_sourceCharacter_76 rfl rfl hq
      ·
        have hq := vif_t hq c49
        refine q_iconst (v := 1) dX1_sourceCharacter_52 (by decide) ?_
        refine q_goto (tgt := 57) dX1_sourceCharacter_53 (by decide) ?_
        refine q_istore_n dX1_sourceCharacter_57 (Nat.le_of_ble_eq_true rfl) rfl ?_
        show mv_rq l G mX1_sourceCharacter (d + 1) 58 [some (.ref u0), some (.int u1), none, some (.int 1), some (.int u4), some (.int u5), some (.int x36)] [] h36 _
        refine q_iload_n dX1_sourceCharacter_58 rfl ?_
        refine q_if_ne (tgt := 69) dX1_sourceCharacter_59 (by decide) (fun _ => ?_) (fun z => absurd z (by decide))
        refine q_iload dX1_sourceCharacter_69 rfl ?_
        refine q_if_ne (tgt := 77) dX1_sourceCharacter_71 (by decide) (fun c71 => ?_) (fun c71 => ?_)
        ·
          have hq := vif_f hq c71
          refine q_iinc dX1_sourceCharacter_77 rfl rfl ?_
          show mv_rq l G mX1_sourceCharacter (d + 1) 80 [some (.ref u0), some (.int u1), none, some (.int 1), some (.int (u4 + (-1))), some (.int u5), some (.int x36)] [] h36 _
          refine q_iinc dX1_sourceCharacter_80 rfl rfl ?_
          show mv_rq l G mX1_sourceCharacter (d + 1) 83 [some (.ref u0), some (.int u1), none, some (.int 1), some (.int (u4 + (-1))), some (.int (u5 + 1)), some (.int x36)] [] h36 _
          refine q_goto (tgt := 16) dX1_sourceCharacter_83 (by decide) ?_
          exact mv_weak (A := [some (.ref u0), some (.int u1), none, some (.int 1), some (.int (u4 + (-1))), some (.int (u5 + 1)), none]) (by repeat' constructor) hq
        ·
          have hq := vif_t hq c71
          refine q_iload dX1_sourceCharacter_74 rfl ?_
          exact q_iret (ty := .int) dX1_sourceCharacter_76 rfl rfl hq
def w_X2_init (l : Launch) (G : mv_G) (d : Nat) (u0 : Nat) (h : mv_H) (Q : mv_O → mv_H → Prop) : Prop :=
  vnw h 3 (.inr (2, [.null, .int 0, .int 0])) fun a5 h5 =>
  mv_rq l G mX0_init d 0 (mv_in [.ref a5] 1) [] h5 (vU (fun E h1 => Q (.inr E) h1) (fun h9 =>
  vpu G h9 u0 4 0 (.ref a5) fun h12 =>
  vpu G h12 u0 4 1 (.null) fun h17 =>
  Q (.inl none) h17))
theorem v_X2_init {l : Launch} {G : mv_G} {d : Nat} {u0 : Nat} {h : mv_H} {Q : mv_O → mv_H → Prop} (hG : mv_ok G) (hq : w_X2_init l G d u0 h Q) : mv_rq l G mX2_init (d + 1) 0 (mv_in [.ref u0] 1) [] h Q := by
  unfold w_X2_init at hq
  show mv_rq l G mX2_init (d + 1) 0 [some (.ref u0)] [] h _
  refine q_aload_n dX2_init_0 rfl ?_
  refine q_objI dX2_init_1 ml_RX2_3 obj_in obj_co rfl (Nat.le_of_ble_eq_true rfl) ?_
  refine q_aload_n dX2_init_4 rfl ?_
  obtain ⟨a5, h5, ea5, eh5, hq⟩ := vnw_e hq
  refine q_new (fs := [.null, .int 0, .int 0]) (ci := 2) (T := TX0) (N := 3) tyX0 tyX0_ok dX2_init_5 cl_RX2_9 inst_RX0 init_RX0 uin_RX0 rfl (by decide) ?_
  rw [← eh5, ← ea5]
  show mv_rq l G mX2_init (d + 1) 8 [some (.ref u0)] [.ref a5, .ref u0] h5 _
  refine q_dup dX2_init_8 rfl ?_
  refine q_cIN (Y := mX0_init) (As := []) (st := [.ref a5, .ref u0]) (b := a5) ic_X0_init dX2_init_9 mn_RX2_11 rfl (Nat.le_of_ble_eq_true rfl) rfl (Nat.le_of_ble_eq_true rfl) hq (fun v h1 hq1 => ?_) (fun E h1 hq1 => ?_)
  rotate_left
  ·
    rcases hq1 with hq1 | ⟨E1, e1, hq1⟩
    · exact nomatch hq1.1
    · obtain rfl := Sum.inr.inj e1; exact q_xout (fun z hz => nomatch hz) hq1
  rcases hq1 with hq1 | ⟨E1, e1, hq1⟩
  rotate_left
  · exact nomatch e1
  obtain ⟨hv, hq⟩ := hq1
  obtain rfl := Sum.inl.inj hv
  clear hv
  obtain ⟨h9, eh9⟩ : ∃ z, z = h1 := ⟨_, rfl⟩
  rw [← eh9] at hq ⊢
  clear eh9
  show mv_rq l G mX2_init (d + 1) 12 [some (.ref u0)] [.ref a5, .ref u0] h9 _
  obtain ⟨fs12, h12, f12, b12, l12, e12, hq⟩ := vpu_e hq
  refine q_putF (k := 0) (T := TX2) (C0 := RX2) (N := 2) (ci := 4) (ty := (.object "TreePaths$Cursor")) tyX2 tyX2_ok nmX2 dX2_init_12 fl_RX2_12 rfl uin_RX2 (by decide) rfl rfl rfl rfl (by decide +kernel) rfl rfl b12 f12 l12 ?_
  rw [← e12]
  show mv_rq l G mX2_init (d + 1) 15 [some (.ref u0)] [] h12 _
  refine q_aload_n dX2_init_15 rfl ?_
  refine q_null dX2_init_16 ?_
  obtain ⟨fs17, h17, f17, b17, l17, e17, hq⟩ := vpu_e hq
  refine q_putf (k := 1) (T := TX2) (C0 := RX2) (N := 2) (ci := 4) (ty := (.object "TreePaths$Document")) tyX2 tyX2_ok nmX2 dX2_init_17 fl_RX2_18 rfl uin_RX2 (by decide) rfl rfl (by decide +kernel) rfl rfl b17 f17 l17 ?_
  rw [← e17]
  show mv_rq l G mX2_init (d + 1) 20 [some (.ref u0)] [] h17 _
  exact q_vret dX2_init_20 rfl hq
def w_X2_readInto (l : Launch) (G : mv_G) (d : Nat) (u0 : Nat) (u1 : Nat) (u2 : Nat) (h : mv_H) (Q : mv_O → mv_H → Prop) : Prop :=
  vpu G h u0 4 1 (.ref u1) fun h2 =>
  vgb h2 u0 4 1 fun x6 =>
  vob h2 x6 3 (
  mv_rq l G mX1_restart d 0 (mv_in [.ref x6, .ref u2] 2) [] h2 (vU (fun E h1 => mv_xq l G mX2_readInto (d + 1) 10 [some (.ref u0), some (.ref u1), some (.ref u2), none] E h1 Q) (fun h10 =>
  vgb h10 u0 4 0 fun x14 =>
  vob h10 x14 2 (
  mv_rq l G mX0_restart d 0 (mv_in [.ref x14, .ref u2] 2) [] h10 (vU (fun E h1 => mv_xq l G mX2_readInto (d + 1) 18 [some (.ref u0), some (.ref u1), some (.ref u2), none] E h1 Q) (fun h18 =>
  vst G RX2 29 "" fun a23 =>
  vob h18 u0 4 (
  mv_rq l G mX2_readValue d 0 (mv_in [.ref u0, .int (-1), .ref a23, .int 0] 6) [] h18 (vU (fun E h1 => mv_xq l G mX2_readInto (d + 1) 26 [some (.ref u0), some (.ref u1), some (.ref u2), none] E h1 Q) (fun h26 =>
  vgb h26 u0 4 0 fun x30 =>
  vob h26 x30 2 (
  mv_rq l G mX0_expectEnd d 0 (mv_in [.ref x30] 1) [] h26 (vU (fun E h1 => mv_xq l G mX2_readInto (d + 1) 33 [some (.ref u0), some (.ref u1), some (.ref u2), none] E h1 Q) (fun h33 =>
  Q (.inl (some (.int (-1)))) h33))))))))))))
theorem v_X2_readInto {l : Launch} {G : mv_G} {d : Nat} {u0 : Nat} {u1 : Nat} {u2 : Nat} {h : mv_H} {Q : mv_O → mv_H → Prop} (hG : mv_ok G) (hq : w_X2_readInto l G d u0 u1 u2 h Q) : mv_rq l G mX2_readInto (d + 1) 0 (mv_in [.ref u0, .ref u1, .ref u2] 4) [] h Q := by
  unfold w_X2_readInto at hq
  show mv_rq l G mX2_readInto (d + 1) 0 [some (.ref u0), some (.ref u1), some (.ref u2), none] [] h _
  refine q_aload_n dX2_readInto_0 rfl ?_
  refine q_aload_n dX2_readInto_1 rfl ?_
  obtain ⟨fs2, h2, f2, b2, l2, e2, hq⟩ := vpu_e hq
  refine q_putf (k := 1) (T := TX2) (C0 := RX2) (N := 2) (ci := 4) (ty := (.object "TreePaths$Document")) tyX2 tyX2_ok nmX2 dX2_readInto_2 fl_RX2_18 rfl uin_RX2 (by decide) rfl rfl (by decide +kernel) rfl rfl b2 f2 l2 ?_
  rw [← e2]
  show mv_rq l G mX2_readInto (d + 1) 5 [some (.ref u0), some (.ref u1), some (.ref u2), none] [] h2 _
  refine q_aload_n dX2_readInto_5 rfl ?_
  obtain ⟨fs6, x6, f6, g6, hq⟩ := vgb_e hq
  refine q_getf (k := 1) (T := TX2) (C0 := RX2) (N := 2) (ci := 4) dX2_readInto_6 fl_RX2_18 rfl uin_RX2 (by decide) rfl f6 g6 ?_
  refine q_aload_n dX2_readInto_9 rfl ?_
  obtain ⟨⟨fs10, f10⟩, hq⟩ := vob_e hq
  refine q_cV (Y := mX1_restart) (As := [.ref u2]) (st := []) (b := x6) (ci := 3) vc_X1_restart dX2_readInto_10 ml_RX2_22 rfl f10 rfl (Nat.le_of_ble_eq_true rfl) rfl (Nat.le_of_ble_eq_true rfl) hq (fun v h1 hq1 => ?_) (fun E h1 hq1 => ?_)
  rotate_left
  ·
    rcases hq1 with hq1 | ⟨E1, e1, hq1⟩
    · exact nomatch hq1.1
    · obtain rfl := Sum.inr.inj e1; exact hq1
  rcases hq1 with hq1 | ⟨E1, e1, hq1⟩
  rotate_left
  · exact nomatch e1
  obtain ⟨hv, hq⟩ := hq1
  obtain rfl := Sum.inl.inj hv
  clear hv
  obtain ⟨h10, eh10⟩ : ∃ z, z = h1 := ⟨_, rfl⟩
  rw [← eh10] at hq ⊢
  clear eh10
  show mv_rq l G mX2_readInto (d + 1) 13 [some (.ref u0), some (.ref u1), some (.ref u2), none] [] h10 _
  refine q_aload_n dX2_readInto_13 rfl ?_
  obtain ⟨fs14, x14, f14, g14, hq⟩ := vgb_e hq
  refine q_getf (k := 0) (T := TX2) (C0 := RX2) (N := 2) (ci := 4) dX2_readInto_14 fl_RX2_12 rfl uin_RX2 (by decide) rfl f14 g14 ?_
  refine q_aload_n dX2_readInto_17 rfl ?_
  obtain ⟨⟨fs18, f18⟩, hq⟩ := vob_e hq
  refine q_cV (Y := mX0_restart) (As := [.ref u2]) (st := []) (b := x14) (ci := 2) vc_X0_restart dX2_readInto_18 ml_RX2_28 rfl f18 rfl (Nat.le_of_ble_eq_true rfl) rfl (Nat.le_of_ble_eq_true rfl) hq (fun v h1 hq1 => ?_) (fun E h1 hq1 => ?_)
  rotate_left
  ·
    rcases hq1 with hq1 | ⟨E1, e1, hq1⟩
    · exact nomatch hq1.1
    · obtain rfl := Sum.inr.inj e1; exact hq1
  rcases hq1 with hq1 | ⟨E1, e1, hq1⟩
  rotate_left
  · exact nomatch e1
  obtain ⟨hv, hq⟩ := hq1
  obtain rfl := Sum.inl.inj hv
  clear hv
  obtain ⟨h18, eh18⟩ : ∃ z, z = h1 := ⟨_, rfl⟩
  rw [← eh18] at hq ⊢
  clear eh18
  show mv_rq l G mX2_readInto (d + 1) 21 [some (.ref u0), some (.ref u1), some (.ref u2), none] [] h18 _
  refine q_aload_n dX2_readInto_21 rfl ?_
  refine q_iconst (v := (-1)) dX2_readInto_22 (by decide) ?_
  obtain ⟨a23, ea23, hq⟩ := vst_e hq
  refine q_ldcS dX2_readInto_23 ea23 ?_
  refine q_iconst (v := 0) dX2_readInto_25 (by decide) ?_
  obtain ⟨⟨fs26, f26⟩, hq⟩ := vob_e hq
  refine q_cV (Y := mX2_readValue) (As := [.int (-1), .ref a23, .int 0]) (st := []) (b := u0) (ci := 4) vc_X2_readValue dX2_readInto_26 ml_RX2_31 rfl f26 rfl (Nat.le_of_ble_eq_true rfl) rfl (Nat.le_of_ble_eq_true rfl) hq (fun v h1 hq1 => ?_) (fun E h1 hq1 => ?_)
  rotate_left
  ·
    rcases hq1 with hq1 | ⟨E1, e1, hq1⟩
    · exact nomatch hq1.1
    · obtain rfl := Sum.inr.inj e1; exact hq1
  rcases hq1 with hq1 | ⟨E1, e1, hq1⟩
  rotate_left
  · exact nomatch e1
  obtain ⟨hv, hq⟩ := hq1
  obtain rfl := Sum.inl.inj hv
  clear hv
  obtain ⟨h26, eh26⟩ : ∃ z, z = h1 := ⟨_, rfl⟩
  rw [← eh26] at hq ⊢
  clear eh26
  show mv_rq l G mX2_readInto (d + 1) 29 [some (.ref u0), some (.ref u1), some (.ref u2), none] [] h26 _
  refine q_aload_n dX2_readInto_29 rfl ?_
  obtain ⟨fs30, x30, f30, g30, hq⟩ := vgb_e hq
  refine q_getf (k := 0) (T := TX2) (C0 := RX2) (N := 2) (ci := 4) dX2_readInto_30 fl_RX2_12 rfl uin_RX2 (by decide) rfl f30 g30 ?_
  obtain ⟨⟨fs33, f33⟩, hq⟩ := vob_e hq
  refine q_cV (Y := mX0_expectEnd) (As := []) (st := []) (b := x30) (ci := 2) vc_X0_expectEnd dX2_readInto_33 ml_RX2_35 rfl f33 rfl (Nat.le_of_ble_eq_true rfl) rfl (Nat.le_of_ble_eq_true rfl) hq (fun v h1 hq1 => ?_) (fun E h1 hq1 => ?_)
  rotate_left
  ·
    rcases hq1 with hq1 | ⟨E1, e1, hq1⟩
    · exact nomatch hq1.1
    · obtain rfl := Sum.inr.inj e1; exact hq1
  rcases hq1 with hq1 | ⟨E1, e1, hq1⟩
  rotate_left
  · exact nomatch e1
  obtain ⟨hv, hq⟩ := hq1
  obtain rfl := Sum.inl.inj hv
  clear hv
  obtain ⟨h33, eh33⟩ : ∃ z, z = h1 := ⟨_, rfl⟩
  rw [← eh33] at hq ⊢
  clear eh33
  show mv_rq l G mX2_readInto (d + 1) 36 [some (.ref u0), some (.ref u1), some (.ref u2), none] [] h33 _
  refine q_goto (tgt := 48) dX2_readInto_36 (by decide) ?_
  refine q_iconst (v := (-1)) dX2_readInto_48 (by decide) ?_
  exact q_iret (ty := .int) dX2_readInto_49 rfl rfl hq
def w_X2_readValue (l : Launch) (G : mv_G) (d : Nat) (u0 : Nat) (u1 : Int32) (u2 : Nat) (u3 : Int32) (h : mv_H) (Q : mv_O → mv_H → Prop) : Prop :=
  vgb h u0 4 0 fun x1 =>
  vob h x1 2 (
  mv_rq l G mX0_skipBlanks d 0 (mv_in [.ref x1] 2) [] h (vU (fun E h1 => Q (.inr E) h1) (fun h4 =>
  vgb h4 u0 4 1 fun x8 =>
  vgi h4 x8 3 3 fun x11 =>
  vif (x11 < 40) (
    mv_rq l G mX2_readValue (d + 1) 33 [some (.ref u0), some (.int u1), some (.ref u2), some (.int u3), none, none] [] h4 Q) (
    vgb h4 u0 4 0 fun x20 =>
    vgb h4 u0 4 0 fun x24 =>
    vgi h4 x24 2 1 fun x27 =>
    vob h4 x20 2 (
    mv_rq l G mX0_refuse d 0 (mv_in [.ref x20, .int x27] 2) [] h4 (vU (fun E h1 => Q (.inr E) h1) (fun h30 =>
    mv_rq l G mX2_readValue (d + 1) 33 [some (.ref u0), some (.int u1), some (.ref u2), some (.int u3), none, none] [] h30 Q)))))))
theorem v_X2_readValue {l : Launch} {G : mv_G} {d : Nat} {u0 : Nat} {u1 : Int32} {u2 : Nat} {u3 : Int32} {h : mv_H} {Q : mv_O → mv_H → Prop} (hG : mv_ok G) (hq : w_X2_readValue l G d u0 u1 u2 u3 h Q) : mv_rq l G mX2_readValue (d + 1) 0 (mv_in [.ref u0, .int u1, .ref u2, .int u3] 6) [] h Q := by
  unfold w_X2_readValue at hq
  show mv_rq l G mX2_readValue (d + 1) 0 [some (.ref u0), some (.int u1), some (.ref u2), some (.int u3), none, none] [] h _
  refine q_aload_n dX2_readValue_0 rfl ?_
  obtain ⟨fs1, x1, f1, g1, hq⟩ := vgb_e hq
  refine q_getf (k := 0) (T := TX2) (C0 := RX2) (N := 2) (ci := 4) dX2_readValue_1 fl_RX2_12 rfl uin_RX2 (by decide) rfl f1 g1 ?_
  obtain ⟨⟨fs4, f4⟩, hq⟩ := vob_e hq
  refine q_cV (Y := mX0_skipBlanks) (As := []) (st := []) (b := x1) (ci := 2) vc_X0_skipBlanks dX2_readValue_4 ml_RX2_44 rfl f4 rfl (Nat.le_of_ble_eq_true rfl) rfl (Nat.le_of_ble_eq_true rfl) hq (fun v h1 hq1 => ?_) (fun E h1 hq1 => ?_)
  rotate_left
  ·
    rcases hq1 with hq1 | ⟨E1, e1, hq1⟩
    · exact nomatch hq1.1
    · obtain rfl := Sum.inr.inj e1; exact q_xout (fun z hz => nomatch hz) hq1
  rcases hq1 with hq1 | ⟨E1, e1, hq1⟩
  rotate_left
  · exact nomatch e1
  obtain ⟨hv, hq⟩ := hq1
  obtain rfl := Sum.inl.inj hv
  clear hv
  obtain ⟨h4, eh4⟩ : ∃ z, z = h1 := ⟨_, rfl⟩
  rw [← eh4] at hq ⊢
  clear eh4
  show mv_rq l G mX2_readValue (d + 1) 7 [some (.ref u0), some (.int u1), some (.ref u2), some (.int u3), none, none] [] h4 _
  refine q_aload_n dX2_readValue_7 rfl ?_
  obtain ⟨fs8, x8, f8, g8, hq⟩ := vgb_e hq
  refine q_getf (k := 1) (T := TX2) (C0 := RX2) (N := 2) (ci := 4) dX2_readValue_8 fl_RX2_18 rfl uin_RX2 (by decide) rfl f8 g8 ?_
  obtain ⟨fs11, x11, f11, g11, hq⟩ := vgi_e hq
  refine q_getf (k := 3) (T := TX1) (C0 := RX1) (N := 4) (ci := 3) dX2_readValue_11 fl_RX2_47 rfl uin_RX1 (by decide) rfl f11 g11 ?_
  refine q_bipush (v := 40) dX2_readValue_14 (by decide) ?_
  refine q_icmp_lt (tgt := 33) dX2_readValue_16 (by decide) (fun c16 => ?_) (fun c16 => ?_)
  ·
    have hq := vif_t hq c16
    exact mv_weak (A := [some (.ref u0), some (.int u1), some (.ref u2), some (.int u3), none, none]) (by repeat' constructor) hq
  ·
    have hq := vif_f hq c16
    refine q_aload_n dX2_readValue_19 rfl ?_
    obtain ⟨fs20, x20, f20, g20, hq⟩ := vgb_e hq
    refine q_getf (k := 0) (T := TX2) (C0 := RX2) (N := 2) (ci := 4) dX2_readValue_20 fl_RX2_12 rfl uin_RX2 (by decide) rfl f20 g20 ?_
    refine q_aload_n dX2_readValue_23 rfl ?_
    obtain ⟨fs24, x24, f24, g24, hq⟩ := vgb_e hq
    refine q_getf (k := 0) (T := TX2) (C0 := RX2) (N := 2) (ci := 4) dX2_readValue_24 fl_RX2_12 rfl uin_RX2 (by decide) rfl f24 g24 ?_
    obtain ⟨fs27, x27, f27, g27, hq⟩ := vgi_e hq
    refine q_getf (k := 1) (T := TX0) (C0 := RX0) (N := 3) (ci := 2) dX2_readValue_27 fl_RX2_50 rfl uin_RX0 (by decide) rfl f27 g27 ?_
    obtain ⟨⟨fs30, f30⟩, hq⟩ := vob_e hq
    refine q_cV (Y := mX0_refuse) (As := [.int x27]) (st := []) (b := x20) (ci := 2) vc_X0_refuse dX2_readValue_30 ml_RX2_53 rfl f30 rfl (Nat.le_of_ble_eq_true rfl) rfl (Nat.le_of_ble_eq_true rfl) hq (fun v h1 hq1 => ?_) (fun E h1 hq1 => ?_)
    rotate_left
    ·
      rcases hq1 with hq1 | ⟨E1, e1, hq1⟩
      · exact nomatch hq1.1
      · obtain rfl := Sum.inr.inj e1; exact q_xout (fun z hz => nomatch hz) hq1
    rcases hq1 with hq1 | ⟨E1, e1, hq1⟩
    rotate_left
    · exact nomatch e1
    obtain ⟨hv, hq⟩ := hq1
    obtain rfl := Sum.inl.inj hv
    clear hv
    obtain ⟨h30, eh30⟩ : ∃ z, z = h1 := ⟨_, rfl⟩
    rw [← eh30] at hq ⊢
    clear eh30
    show mv_rq l G mX2_readValue (d + 1) 33 [some (.ref u0), some (.int u1), some (.ref u2), some (.int u3), none, none] [] h30 _
    exact mv_weak (A := [some (.ref u0), some (.int u1), some (.ref u2), some (.int u3), none, none]) (by repeat' constructor) hq
def w_X2_readValue_33 (l : Launch) (G : mv_G) (d : Nat) (u0 : Nat) (u1 : Int32) (u2 : Nat) (u3 : Int32) (h : mv_H) (Q : mv_O → mv_H → Prop) : Prop :=
  vgb h u0 4 1 fun x34 =>
  vgb h u0 4 0 fun x40 =>
  vgi h x40 2 1 fun x43 =>
  vob h x34 3 (
  mv_rq l G mX1_add d 0 (mv_in [.ref x34, .int u1, .ref u2, .int x43] 7) [] h (vI (fun E h1 => Q (.inr E) h1) (fun x46 h46 =>
  vgb h46 u0 4 1 fun x52 =>
  vgb h46 x52 3 0 fun x55 =>
  vab G h46 x55 4 x46 fun x60 =>
  vgb h46 u0 4 0 fun x64 =>
  vob h46 x64 2 (
  mv_rq l G mX0_look d 0 (mv_in [.ref x64] 1) [] h46 (vI (fun E h1 => Q (.inr E) h1) (fun x67 h67 =>
  vif (x67 = 91) (
    vob h67 u0 4 (
    mv_rq l G mX2_readArray d 0 (mv_in [.ref u0, .int x46, .int (u3 + 1)] 4) [] h67 (vU (fun E h1 => Q (.inr E) h1) (fun h102 =>
    mv_rq l G mX2_readValue (d + 1) 133 [some (.ref u0), none, none, none, none, some (.ref x60)] [] h102 Q)))) (
  vif (x67 = 123) (
    vob h67 u0 4 (
    mv_rq l G mX2_readObject d 0 (mv_in [.ref u0, .int x46, .int (u3 + 1)] 4) [] h67 (vU (fun E h1 => Q (.inr E) h1) (fun h114 =>
    mv_rq l G mX2_readValue (d + 1) 133 [some (.ref u0), none, none, none, none, some (.ref x60)] [] h114 Q)))) (
    vgb h67 u0 4 0 fun x121 =>
    vob h67 x121 2 (
    mv_rq l G mX0_readPlain d 0 (mv_in [.ref x121, .ref x60, .int 34, .int 92] 5) [] h67 (vU (fun E h1 => Q (.inr E) h1) (fun h130 =>
    mv_rq l G mX2_readValue (d + 1) 133 [some (.ref u0), none, none, none, none, some (.ref x60)] [] h130 Q)))))))))))
theorem v_X2_readValue_33 {l : Launch} {G : mv_G} {d : Nat} {u0 : Nat} {u1 : Int32} {u2 : Nat} {u3 : Int32} {h : mv_H} {Q : mv_O → mv_H → Prop} (hG : mv_ok G) (hq : w_X2_readValue_33 l G d u0 u1 u2 u3 h Q) : mv_rq l G mX2_readValue (d + 1) 33 [some (.ref u0), some (.int u1), some (.ref u2), some (.int u3), none, none] [] h Q := by
  unfold w_X2_readValue_33 at hq
  refine q_aload_n dX2_readValue_33 rfl ?_
  obtain ⟨fs34, x34, f34, g34, hq⟩ := vgb_e hq
  refine q_getf (k := 1) (T := TX2) (C0 := RX2) (N := 2) (ci := 4) dX2_readValue_34 fl_RX2_18 rfl uin_RX2 (by decide) rfl f34 g34 ?_
  refine q_iload_n dX2_readValue_37 rfl ?_
  refine q_aload_n dX2_readValue_38 rfl ?_
  refine q_aload_n dX2_readValue_39 rfl ?_
  obtain ⟨fs40, x40, f40, g40, hq⟩ := vgb_e hq
  refine q_getf (k := 0) (T := TX2) (C0 := RX2) (N := 2) (ci := 4) dX2_readValue_40 fl_RX2_12 rfl uin_RX2 (by decide) rfl f40 g40 ?_
  obtain ⟨fs43, x43, f43, g43, hq⟩ := vgi_e hq
  refine q_getf (k := 1) (T := TX0) (C0 := RX0) (N := 3) (ci := 2) dX2_readValue_43 fl_RX2_50 rfl uin_RX0 (by decide) rfl f43 g43 ?_
  obtain ⟨⟨fs46, f46⟩, hq⟩ := vob_e hq
  refine q_cV (Y := mX1_add) (As := [.int u1, .ref u2, .int x43]) (st := []) (b := x34) (ci := 3) vc_X1_add dX2_readValue_46 ml_RX2_57 rfl f46 rfl (Nat.le_of_ble_eq_true rfl) rfl (Nat.le_of_ble_eq_true rfl) hq (fun v h1 hq1 => ?_) (fun E h1 hq1 => ?_)
  rotate_left
  ·
    rcases hq1 with hq1 | ⟨E1, e1, hq1⟩
    · obtain ⟨_, z, _⟩ := hq1; exact nomatch z
    · obtain rfl := Sum.inr.inj e1; exact q_xout (fun z hz => nomatch hz) hq1
  rcases hq1 with hq1 | ⟨E1, e1, hq1⟩
  rotate_left
  · exact nomatch e1
  obtain ⟨x46, hv, hq⟩ := hq1
  obtain rfl := Sum.inl.inj hv
  clear hv
  obtain ⟨h46, eh46⟩ : ∃ z, z = h1 := ⟨_, rfl⟩
  rw [← eh46] at hq ⊢
  clear eh46
  show mv_rq l G mX2_readValue (d + 1) 49 [some (.ref u0), some (.int u1), some (.ref u2), some (.int u3), none, none] [.int x46] h46 _
  refine q_istore dX2_readValue_49 (Nat.le_of_ble_eq_true rfl) rfl ?_
  show mv_rq l G mX2_readValue (d + 1) 51 [some (.ref u0), some (.int u1), some (.ref u2), some (.int u3), some (.int x46), none] [] h46 _
  refine q_aload_n dX2_readValue_51 rfl ?_
  obtain ⟨fs52, x52, f52, g52, hq⟩ := vgb_e hq
  refine q_getf (k := 1) (T := TX2) (C0 := RX2) (N := 2) (ci := 4) dX2_readValue_52 fl_RX2_18 rfl uin_RX2 (by decide) rfl f52 g52 ?_
  obtain ⟨fs55, x55, f55, g55, hq⟩ := vgb_e hq
  refine q_getf (k := 0) (T := TX1) (C0 := RX1) (N := 4) (ci := 3) dX2_readValue_55 fl_RX2_61 rfl uin_RX1 (by decide) rfl f55 g55 ?_
  refine q_iload dX2_readValue_58 rfl ?_
  obtain ⟨n60, f60, x60, g60, i60, e60, hq⟩ := vab_e hq
  refine q_aald (t0 := 4) dX2_readValue_60 (mv_ty hG (t := 4) rfl) g60 i60 ?_
  rw [e60]
  show mv_rq l G mX2_readValue (d + 1) 61 [some (.ref u0), some (.int u1), some (.ref u2), some (.int u3), some (.int x46), none] [.ref x60] h46 _
  refine q_astore dX2_readValue_61 (Nat.le_of_ble_eq_true rfl) rfl ?_
  show mv_rq l G mX2_readValue (d + 1) 63 [some (.ref u0), some (.int u1), some (.ref u2), some (.int u3), some (.int x46), some (.ref x60)] [] h46 _
  refine q_aload_n dX2_readValue_63 rfl ?_
  obtain ⟨fs64, x64, f64, g64, hq⟩ := vgb_e hq
  refine q_getf (k := 0) (T := TX2) (C0 := RX2) (N := 2) (ci := 4) dX2_readValue_64 fl_RX2_12 rfl uin_RX2 (by decide) rfl f64 g64 ?_
  obtain ⟨⟨fs67, f67⟩, hq⟩ := vob_e hq
  refine q_cV (Y := mX0_look) (As := []) (st := []) (b := x64) (ci := 2) vc_X0_look dX2_readValue_67 ml_RX2_65 rfl f67 rfl (Nat.le_of_ble_eq_true rfl) rfl (Nat.le_of_ble_eq_true rfl) hq (fun v h1 hq1 => ?_) (fun E h1 hq1 => ?_)
  rotate_left
  ·
    rcases hq1 with hq1 | ⟨E1, e1, hq1⟩
    · obtain ⟨_, z, _⟩ := hq1; exact nomatch z
    · obtain rfl := Sum.inr.inj e1; exact q_xout (fun z hz => nomatch hz) hq1
  rcases hq1 with hq1 | ⟨E1, e1, hq1⟩
  rotate_left
  · exact nomatch e1
  obtain ⟨x67, hv, hq⟩ := hq1
  obtain rfl := Sum.inl.inj hv
  clear hv
  obtain ⟨h67, eh67⟩ : ∃ z, z = h1 := ⟨_, rfl⟩
  rw [← eh67] at hq ⊢
  clear eh67
  show mv_rq l G mX2_readValue (d + 1) 70 [some (.ref u0), some (.int u1), some (.ref u2), some (.int u3), some (.int x46), some (.ref x60)] [.int x67] h67 _
  by_cases c70_0 : x67 = 91
  ·
    have hq := vif_t hq c70_0
    have t70 := md_ti (i := 91) (by decide) c70_0
    refine q_lookup (off := 26) (tgt := 96) dX2_readValue_70 (by decide) (by rw [t70]; rfl) (by decide) ?_
    refine q_aload_n dX2_readValue_96 rfl ?_
    refine q_iload dX2_readValue_97 rfl ?_
    refine q_iload_n dX2_readValue_99 rfl ?_
    refine q_iconst (v := 1) dX2_readValue_100 (by decide) ?_
    refine q_iadd dX2_readValue_101 ?_
    obtain ⟨⟨fs102, f102⟩, hq⟩ := vob_e hq
    refine q_cV (Y := mX2_readArray) (As := [.int x46, .int (u3 + 1)]) (st := []) (b := u0) (ci := 4) vc_X2_readArray dX2_readValue_102 ml_RX2_69 rfl f102 rfl (Nat.le_of_ble_eq_true rfl) rfl (Nat.le_of_ble_eq_true rfl) hq (fun v h1 hq1 => ?_) (fun E h1 hq1 => ?_)
    rotate_left
    ·
      rcases hq1 with hq1 | ⟨E1, e1, hq1⟩
      · exact nomatch hq1.1
      · obtain rfl := Sum.inr.inj e1; exact q_xout (fun z hz => nomatch hz) hq1
    rcases hq1 with hq1 | ⟨E1, e1, hq1⟩
    rotate_left
    · exact nomatch e1
    obtain ⟨hv, hq⟩ := hq1
    obtain rfl := Sum.inl.inj hv
    clear hv
    obtain ⟨h102, eh102⟩ : ∃ z, z = h1 := ⟨_, rfl⟩
    rw [← eh102] at hq ⊢
    clear eh102
    show mv_rq l G mX2_readValue (d + 1) 105 [some (.ref u0), some (.int u1), some (.ref u2), some (.int u3), some (.int x46), some (.ref x60)] [] h102 _
    refine q_goto (tgt := 133) dX2_readValue_105 (by decide) ?_
    exact mv_weak (A := [some (.ref u0), none, none, none, none, some (.ref x60)]) (by repeat' constructor) hq
  ·
    have hq := vif_f hq c70_0
    by_cases c70_1 : x67 = 123
    ·
      have hq := vif_t hq c70_1
      have t70 := md_ti (i := 123) (by decide) c70_1
      refine q_lookup (off := 38) (tgt := 108) dX2_readValue_70 (by decide) (by rw [t70]; rfl) (by decide) ?_
      refine q_aload_n dX2_readValue_108 rfl ?_
      refine q_iload dX2_readValue_109 rfl ?_
      refine q_iload_n dX2_readValue_111 rfl ?_
      refine q_iconst (v := 1) dX2_readValue_112 (by decide) ?_
      refine q_iadd dX2_readValue_113 ?_
      obtain ⟨⟨fs114, f114⟩, hq⟩ := vob_e hq
      refine q_cV (Y := mX2_readObject) (As := [.int x46, .int (u3 + 1)]) (st := []) (b := u0) (ci := 4) vc_X2_readObject dX2_readValue_114 ml_RX2_73 rfl f114 rfl (Nat.le_of_ble_eq_true rfl) rfl (Nat.le_of_ble_eq_true rfl) hq (fun v h1 hq1 => ?_) (fun E h1 hq1 => ?_)
      rotate_left
      ·
        rcases hq1 with hq1 | ⟨E1, e1, hq1⟩
        · exact nomatch hq1.1
        · obtain rfl := Sum.inr.inj e1; exact q_xout (fun z hz => nomatch hz) hq1
      rcases hq1 with hq1 | ⟨E1, e1, hq1⟩
      rotate_left
      · exact nomatch e1
      obtain ⟨hv, hq⟩ := hq1
      obtain rfl := Sum.inl.inj hv
      clear hv
      obtain ⟨h114, eh114⟩ : ∃ z, z = h1 := ⟨_, rfl⟩
      rw [← eh114] at hq ⊢
      clear eh114
      show mv_rq l G mX2_readValue (d + 1) 117 [some (.ref u0), some (.int u1), some (.ref u2), some (.int u3), some (.int x46), some (.ref x60)] [] h114 _
      refine q_goto (tgt := 133) dX2_readValue_117 (by decide) ?_
      exact mv_weak (A := [some (.ref u0), none, none, none, none, some (.ref x60)]) (by repeat' constructor) hq
    ·
      have hq := vif_f hq c70_1
      refine q_lookup (off := 50) (tgt := 120) dX2_readValue_70 (by decide) (by have e0 := md_tn (i := 91) (by decide) c70_0; have e1 := md_tn (i := 123) (by decide) c70_1; simp [Op.lookupswitch.offset, e0.symm, e1.symm]) (by decide) ?_
      refine q_aload_n dX2_readValue_120 rfl ?_
      obtain ⟨fs121, x121, f121, g121, hq⟩ := vgb_e hq
      refine q_getf (k := 0) (T := TX2) (C0 := RX2) (N := 2) (ci := 4) dX2_readValue_121 fl_RX2_12 rfl uin_RX2 (by decide) rfl f121 g121 ?_
      refine q_aload dX2_readValue_124 rfl ?_
      refine q_bipush (v := 34) dX2_readValue_126 (by decide) ?_
      refine q_bipush (v := 92) dX2_readValue_128 (by decide) ?_
      obtain ⟨⟨fs130, f130⟩, hq⟩ := vob_e hq
      refine q_cV (Y := mX0_readPlain) (As := [.ref x60, .int 34, .int 92]) (st := []) (b := x121) (ci := 2) vc_X0_readPlain dX2_readValue_130 ml_RX2_76 rfl f130 rfl (Nat.le_of_ble_eq_true rfl) rfl (Nat.le_of_ble_eq_true rfl) hq (fun v h1 hq1 => ?_) (fun E h1 hq1 => ?_)
      rotate_left
      ·
        rcases hq1 with hq1 | ⟨E1, e1, hq1⟩
        · exact nomatch hq1.1
        · obtain rfl := Sum.inr.inj e1; exact q_xout (fun z hz => nomatch hz) hq1
      rcases hq1 with hq1 | ⟨E1, e1, hq1⟩
      rotate_left
      · exact nomatch e1
      obtain ⟨hv, hq⟩ := hq1
      obtain rfl := Sum.inl.inj hv
      clear hv
      obtain ⟨h130, eh130⟩ : ∃ z, z = h1 := ⟨_, rfl⟩
      rw [← eh130] at hq ⊢
      clear eh130
      show mv_rq l G mX2_readValue (d + 1) 133 [some (.ref u0), some (.int u1), some (.ref u2), some (.int u3), some (.int x46), some (.ref x60)] [] h130 _
      exact mv_weak (A := [some (.ref u0), none, none, none, none, some (.ref x60)]) (by repeat' constructor) hq
def w_X2_readValue_133 (l : Launch) (G : mv_G) (d : Nat) (u0 : Nat) (u5 : Nat) (h : mv_H) (Q : mv_O → mv_H → Prop) : Prop :=
  vgb h u0 4 0 fun x136 =>
  vgi h x136 2 1 fun x139 =>
  vpu G h u5 13 9 (.int x139) fun h142 =>
  vgb h142 u0 4 1 fun x148 =>
  vgi h142 x148 3 3 fun x151 =>
  vpu G h142 u5 13 7 (.int x151) fun h154 =>
  vgb h154 u0 4 0 fun x158 =>
  vob h154 x158 2 (
  mv_rq l G mX0_skipBlanks d 0 (mv_in [.ref x158] 2) [] h154 (vU (fun E h1 => Q (.inr E) h1) (fun h161 =>
  Q (.inl none) h161)))
theorem v_X2_readValue_133 {l : Launch} {G : mv_G} {d : Nat} {u0 : Nat} {u5 : Nat} {h : mv_H} {Q : mv_O → mv_H → Prop} (hG : mv_ok G) (hq : w_X2_readValue_133 l G d u0 u5 h Q) : mv_rq l G mX2_readValue (d + 1) 133 [some (.ref u0), none, none, none, none, some (.ref u5)] [] h Q := by
  unfold w_X2_readValue_133 at hq
  refine q_aload dX2_readValue_133 rfl ?_
  refine q_aload_n dX2_readValue_135 rfl ?_
  obtain ⟨fs136, x136, f136, g136, hq⟩ := vgb_e hq
  refine q_getf (k := 0) (T := TX2) (C0 := RX2) (N := 2) (ci := 4) dX2_readValue_136 fl_RX2_12 rfl uin_RX2 (by decide) rfl f136 g136 ?_
  obtain ⟨fs139, x139, f139, g139, hq⟩ := vgi_e hq
  refine q_getf (k := 1) (T := TX0) (C0 := RX0) (N := 3) (ci := 2) dX2_readValue_139 fl_RX2_50 rfl uin_RX0 (by decide) rfl f139 g139 ?_
  obtain ⟨fs142, h142, f142, b142, l142, e142, hq⟩ := vpu_e hq
  refine q_putf (k := 9) (T := TX11) (C0 := RX11) (N := 10) (ci := 13) (ty := .int) tyX11 tyX11_ok nmX11 dX2_readValue_142 fl_RX2_80 rfl uin_RX11 (by decide) rfl rfl (by decide +kernel) rfl rfl b142 f142 l142 ?_
  rw [← e142]
  show mv_rq l G mX2_readValue (d + 1) 145 [some (.ref u0), none, none, none, none, some (.ref u5)] [] h142 _
  refine q_aload dX2_readValue_145 rfl ?_
  refine q_aload_n dX2_readValue_147 rfl ?_
  obtain ⟨fs148, x148, f148, g148, hq⟩ := vgb_e hq
  refine q_getf (k := 1) (T := TX2) (C0 := RX2) (N := 2) (ci := 4) dX2_readValue_148 fl_RX2_18 rfl uin_RX2 (by decide) rfl f148 g148 ?_
  obtain ⟨fs151, x151, f151, g151, hq⟩ := vgi_e hq
  refine q_getf (k := 3) (T := TX1) (C0 := RX1) (N := 4) (ci := 3) dX2_readValue_151 fl_RX2_47 rfl uin_RX1 (by decide) rfl f151 g151 ?_
  obtain ⟨fs154, h154, f154, b154, l154, e154, hq⟩ := vpu_e hq
  refine q_putf (k := 7) (T := TX11) (C0 := RX11) (N := 10) (ci := 13) (ty := .int) tyX11 tyX11_ok nmX11 dX2_readValue_154 fl_RX2_85 rfl uin_RX11 (by decide) rfl rfl (by decide +kernel) rfl rfl b154 f154 l154 ?_
  rw [← e154]
  show mv_rq l G mX2_readValue (d + 1) 157 [some (.ref u0), none, none, none, none, some (.ref u5)] [] h154 _
  refine q_aload_n dX2_readValue_157 rfl ?_
  obtain ⟨fs158, x158, f158, g158, hq⟩ := vgb_e hq
  refine q_getf (k := 0) (T := TX2) (C0 := RX2) (N := 2) (ci := 4) dX2_readValue_158 fl_RX2_12 rfl uin_RX2 (by decide) rfl f158 g158 ?_
  obtain ⟨⟨fs161, f161⟩, hq⟩ := vob_e hq
  refine q_cV (Y := mX0_skipBlanks) (As := []) (st := []) (b := x158) (ci := 2) vc_X0_skipBlanks dX2_readValue_161 ml_RX2_44 rfl f161 rfl (Nat.le_of_ble_eq_true rfl) rfl (Nat.le_of_ble_eq_true rfl) hq (fun v h1 hq1 => ?_) (fun E h1 hq1 => ?_)
  rotate_left
  ·
    rcases hq1 with hq1 | ⟨E1, e1, hq1⟩
    · exact nomatch hq1.1
    · obtain rfl := Sum.inr.inj e1; exact q_xout (fun z hz => nomatch hz) hq1
  rcases hq1 with hq1 | ⟨E1, e1, hq1⟩
  rotate_left
  · exact nomatch e1
  obtain ⟨hv, hq⟩ := hq1
  obtain rfl := Sum.inl.inj hv
  clear hv
  obtain ⟨h161, eh161⟩ : ∃ z, z = h1 := ⟨_, rfl⟩
  rw [← eh161] at hq ⊢
  clear eh161
  show mv_rq l G mX2_readValue (d + 1) 164 [some (.ref u0), none, none, none, none, some (.ref u5)] [] h161 _
  exact q_vret dX2_readValue_164 rfl hq
def w_X2_openHolder (l : Launch) (G : mv_G) (d : Nat) (u0 : Nat) (u1 : Int32) (u2 : Int32) (u3 : Int32) (h : mv_H) (Q : mv_O → mv_H → Prop) : Prop :=
  vif (u3 ≤ 6) (
    mv_rq l G mX2_openHolder (d + 1) 20 [some (.ref u0), some (.int u1), some (.int u2), none] [] h Q) (
    vgb h u0 4 0 fun x7 =>
    vgb h u0 4 0 fun x11 =>
    vgi h x11 2 1 fun x14 =>
    vob h x7 2 (
    mv_rq l G mX0_refuse d 0 (mv_in [.ref x7, .int x14] 2) [] h (vU (fun E h1 => Q (.inr E) h1) (fun h17 =>
    mv_rq l G mX2_openHolder (d + 1) 20 [some (.ref u0), some (.int u1), some (.int u2), none] [] h17 Q))))
theorem v_X2_openHolder {l : Launch} {G : mv_G} {d : Nat} {u0 : Nat} {u1 : Int32} {u2 : Int32} {u3 : Int32} {h : mv_H} {Q : mv_O → mv_H → Prop} (hG : mv_ok G) (hq : w_X2_openHolder l G d u0 u1 u2 u3 h Q) : mv_rq l G mX2_openHolder (d + 1) 0 (mv_in [.ref u0, .int u1, .int u2, .int u3] 4) [] h Q := by
  unfold w_X2_openHolder at hq
  show mv_rq l G mX2_openHolder (d + 1) 0 [some (.ref u0), some (.int u1), some (.int u2), some (.int u3)] [] h _
  refine q_iload_n dX2_openHolder_0 rfl ?_
  refine q_bipush (v := 6) dX2_openHolder_1 (by decide) ?_
  refine q_icmp_le (tgt := 20) dX2_openHolder_3 (by decide) (fun c3 => ?_) (fun c3 => ?_)
  ·
    have hq := vif_t hq c3
    exact mv_weak (A := [some (.ref u0), some (.int u1), some (.int u2), none]) (by repeat' constructor) hq
  ·
    have hq := vif_f hq c3
    refine q_aload_n dX2_openHolder_6 rfl ?_
    obtain ⟨fs7, x7, f7, g7, hq⟩ := vgb_e hq
    refine q_getf (k := 0) (T := TX2) (C0 := RX2) (N := 2) (ci := 4) dX2_openHolder_7 fl_RX2_12 rfl uin_RX2 (by decide) rfl f7 g7 ?_
    refine q_aload_n dX2_openHolder_10 rfl ?_
    obtain ⟨fs11, x11, f11, g11, hq⟩ := vgb_e hq
    refine q_getf (k := 0) (T := TX2) (C0 := RX2) (N := 2) (ci := 4) dX2_openHolder_11 fl_RX2_12 rfl uin_RX2 (by decide) rfl f11 g11 ?_
    obtain ⟨fs14, x14, f14, g14, hq⟩ := vgi_e hq
    refine q_getf (k := 1) (T := TX0) (C0 := RX0) (N := 3) (ci := 2) dX2_openHolder_14 fl_RX2_50 rfl uin_RX0 (by decide) rfl f14 g14 ?_
    obtain ⟨⟨fs17, f17⟩, hq⟩ := vob_e hq
    refine q_cV (Y := mX0_refuse) (As := [.int x14]) (st := []) (b := x7) (ci := 2) vc_X0_refuse dX2_openHolder_17 ml_RX2_53 rfl f17 rfl (Nat.le_of_ble_eq_true rfl) rfl (Nat.le_of_ble_eq_true rfl) hq (fun v h1 hq1 => ?_) (fun E h1 hq1 => ?_)
    rotate_left
    ·
      rcases hq1 with hq1 | ⟨E1, e1, hq1⟩
      · exact nomatch hq1.1
      · obtain rfl := Sum.inr.inj e1; exact q_xout (fun z hz => nomatch hz) hq1
    rcases hq1 with hq1 | ⟨E1, e1, hq1⟩
    rotate_left
    · exact nomatch e1
    obtain ⟨hv, hq⟩ := hq1
    obtain rfl := Sum.inl.inj hv
    clear hv
    obtain ⟨h17, eh17⟩ : ∃ z, z = h1 := ⟨_, rfl⟩
    rw [← eh17] at hq ⊢
    clear eh17
    show mv_rq l G mX2_openHolder (d + 1) 20 [some (.ref u0), some (.int u1), some (.int u2), some (.int u3)] [] h17 _
    exact mv_weak (A := [some (.ref u0), some (.int u1), some (.int u2), none]) (by repeat' constructor) hq
def w_X2_openHolder_20 (l : Launch) (G : mv_G) (d : Nat) (u0 : Nat) (u1 : Int32) (u2 : Int32) (h : mv_H) (Q : mv_O → mv_H → Prop) : Prop :=
  vgb h u0 4 1 fun x21 =>
  vgb h x21 3 0 fun x24 =>
  vab G h x24 4 u1 fun x28 =>
  vpu G h x28 13 0 (.int u2) fun h30 =>
  vgb h30 u0 4 0 fun x34 =>
  vob h30 x34 2 (
  mv_rq l G mX0_skip d 0 (mv_in [.ref x34] 1) [] h30 (vU (fun E h1 => Q (.inr E) h1) (fun h37 =>
  vgb h37 u0 4 0 fun x41 =>
  vob h37 x41 2 (
  mv_rq l G mX0_skipBlanks d 0 (mv_in [.ref x41] 2) [] h37 (vU (fun E h1 => Q (.inr E) h1) (fun h44 =>
  Q (.inl none) h44))))))
theorem v_X2_openHolder_20 {l : Launch} {G : mv_G} {d : Nat} {u0 : Nat} {u1 : Int32} {u2 : Int32} {h : mv_H} {Q : mv_O → mv_H → Prop} (hG : mv_ok G) (hq : w_X2_openHolder_20 l G d u0 u1 u2 h Q) : mv_rq l G mX2_openHolder (d + 1) 20 [some (.ref u0), some (.int u1), some (.int u2), none] [] h Q := by
  unfold w_X2_openHolder_20 at hq
  refine q_aload_n dX2_openHolder_20 rfl ?_
  obtain ⟨fs21, x21, f21, g21, hq⟩ := vgb_e hq
  refine q_getf (k := 1) (T := TX2) (C0 := RX2) (N := 2) (ci := 4) dX2_openHolder_21 fl_RX2_18 rfl uin_RX2 (by decide) rfl f21 g21 ?_
  obtain ⟨fs24, x24, f24, g24, hq⟩ := vgb_e hq
  refine q_getf (k := 0) (T := TX1) (C0 := RX1) (N := 4) (ci := 3) dX2_openHolder_24 fl_RX2_61 rfl uin_RX1 (by decide) rfl f24 g24 ?_
  refine q_iload_n dX2_openHolder_27 rfl ?_
  obtain ⟨n28, f28, x28, g28, i28, e28, hq⟩ := vab_e hq
  refine q_aald (t0 := 4) dX2_openHolder_28 (mv_ty hG (t := 4) rfl) g28 i28 ?_
  rw [e28]
  show mv_rq l G mX2_openHolder (d + 1) 29 [some (.ref u0), some (.int u1), some (.int u2), none] [.ref x28] h _
  refine q_iload_n dX2_openHolder_29 rfl ?_
  obtain ⟨fs30, h30, f30, b30, l30, e30, hq⟩ := vpu_e hq
  refine q_putf (k := 0) (T := TX11) (C0 := RX11) (N := 10) (ci := 13) (ty := .int) tyX11 tyX11_ok nmX11 dX2_openHolder_30 fl_RX2_88 rfl uin_RX11 (by decide) rfl rfl (by decide +kernel) rfl rfl b30 f30 l30 ?_
  rw [← e30]
  show mv_rq l G mX2_openHolder (d + 1) 33 [some (.ref u0), some (.int u1), some (.int u2), none] [] h30 _
  refine q_aload_n dX2_openHolder_33 rfl ?_
  obtain ⟨fs34, x34, f34, g34, hq⟩ := vgb_e hq
  refine q_getf (k := 0) (T := TX2) (C0 := RX2) (N := 2) (ci := 4) dX2_openHolder_34 fl_RX2_12 rfl uin_RX2 (by decide) rfl f34 g34 ?_
  obtain ⟨⟨fs37, f37⟩, hq⟩ := vob_e hq
  refine q_cV (Y := mX0_skip) (As := []) (st := []) (b := x34) (ci := 2) vc_X0_skip dX2_openHolder_37 ml_RX2_91 rfl f37 rfl (Nat.le_of_ble_eq_true rfl) rfl (Nat.le_of_ble_eq_true rfl) hq (fun v h1 hq1 => ?_) (fun E h1 hq1 => ?_)
  rotate_left
  ·
    rcases hq1 with hq1 | ⟨E1, e1, hq1⟩
    · exact nomatch hq1.1
    · obtain rfl := Sum.inr.inj e1; exact q_xout (fun z hz => nomatch hz) hq1
  rcases hq1 with hq1 | ⟨E1, e1, hq1⟩
  rotate_left
  · exact nomatch e1
  obtain ⟨hv, hq⟩ := hq1
  obtain rfl := Sum.inl.inj hv
  clear hv
  obtain ⟨h37, eh37⟩ : ∃ z, z = h1 := ⟨_, rfl⟩
  rw [← eh37] at hq ⊢
  clear eh37
  show mv_rq l G mX2_openHolder (d + 1) 40 [some (.ref u0), some (.int u1), some (.int u2), none] [] h37 _
  refine q_aload_n dX2_openHolder_40 rfl ?_
  obtain ⟨fs41, x41, f41, g41, hq⟩ := vgb_e hq
  refine q_getf (k := 0) (T := TX2) (C0 := RX2) (N := 2) (ci := 4) dX2_openHolder_41 fl_RX2_12 rfl uin_RX2 (by decide) rfl f41 g41 ?_
  obtain ⟨⟨fs44, f44⟩, hq⟩ := vob_e hq
  refine q_cV (Y := mX0_skipBlanks) (As := []) (st := []) (b := x41) (ci := 2) vc_X0_skipBlanks dX2_openHolder_44 ml_RX2_44 rfl f44 rfl (Nat.le_of_ble_eq_true rfl) rfl (Nat.le_of_ble_eq_true rfl) hq (fun v h1 hq1 => ?_) (fun E h1 hq1 => ?_)
  rotate_left
  ·
    rcases hq1 with hq1 | ⟨E1, e1, hq1⟩
    · exact nomatch hq1.1
    · obtain rfl := Sum.inr.inj e1; exact q_xout (fun z hz => nomatch hz) hq1
  rcases hq1 with hq1 | ⟨E1, e1, hq1⟩
  rotate_left
  · exact nomatch e1
  obtain ⟨hv, hq⟩ := hq1
  obtain rfl := Sum.inl.inj hv
  clear hv
  obtain ⟨h44, eh44⟩ : ∃ z, z = h1 := ⟨_, rfl⟩
  rw [← eh44] at hq ⊢
  clear eh44
  show mv_rq l G mX2_openHolder (d + 1) 47 [some (.ref u0), some (.int u1), some (.int u2), none] [] h44 _
  exact q_vret dX2_openHolder_47 rfl hq
def w_X2_readArray (l : Launch) (G : mv_G) (d : Nat) (u0 : Nat) (u1 : Int32) (u2 : Int32) (h : mv_H) (Q : mv_O → mv_H → Prop) : Prop :=
  vob h u0 4 (
  mv_rq l G mX2_openHolder d 0 (mv_in [.ref u0, .int u1, .int 5, .int u2] 4) [] h (vU (fun E h1 => Q (.inr E) h1) (fun h4 =>
  vgb h4 u0 4 0 fun x8 =>
  vob h4 x8 2 (
  mv_rq l G mX0_passes d 0 (mv_in [.ref x8, .int 93] 2) [] h4 (vI (fun E h1 => Q (.inr E) h1) (fun x13 h13 =>
  vif (x13 = 0) (
    mv_rq l G mX2_readArray (d + 1) 22 [some (.ref u0), some (.int u1), some (.int u2), some (.int 0)] [] h13 Q) (
    Q (.inl none) h13)))))))
theorem v_X2_readArray {l : Launch} {G : mv_G} {d : Nat} {u0 : Nat} {u1 : Int32} {u2 : Int32} {h : mv_H} {Q : mv_O → mv_H → Prop} (hG : mv_ok G) (hq : w_X2_readArray l G d u0 u1 u2 h Q) : mv_rq l G mX2_readArray (d + 1) 0 (mv_in [.ref u0, .int u1, .int u2] 4) [] h Q := by
  unfold w_X2_readArray at hq
  show mv_rq l G mX2_readArray (d + 1) 0 [some (.ref u0), some (.int u1), some (.int u2), none] [] h _
  refine q_aload_n dX2_readArray_0 rfl ?_
  refine q_iload_n dX2_readArray_1 rfl ?_
  refine q_iconst (v := 5) dX2_readArray_2 (by decide) ?_
  refine q_iload_n dX2_readArray_3 rfl ?_
  obtain ⟨⟨fs4, f4⟩, hq⟩ := vob_e hq
  refine q_cV (Y := mX2_openHolder) (As := [.int u1, .int 5, .int u2]) (st := []) (b := u0) (ci := 4) vc_X2_openHolder dX2_readArray_4 ml_RX2_94 rfl f4 rfl (Nat.le_of_ble_eq_true rfl) rfl (Nat.le_of_ble_eq_true rfl) hq (fun v h1 hq1 => ?_) (fun E h1 hq1 => ?_)
  rotate_left
  ·
    rcases hq1 with hq1 | ⟨E1, e1, hq1⟩
    · exact nomatch hq1.1
    · obtain rfl := Sum.inr.inj e1; exact q_xout (fun z hz => nomatch hz) hq1
  rcases hq1 with hq1 | ⟨E1, e1, hq1⟩
  rotate_left
  · exact nomatch e1
  obtain ⟨hv, hq⟩ := hq1
  obtain rfl := Sum.inl.inj hv
  clear hv
  obtain ⟨h4, eh4⟩ : ∃ z, z = h1 := ⟨_, rfl⟩
  rw [← eh4] at hq ⊢
  clear eh4
  show mv_rq l G mX2_readArray (d + 1) 7 [some (.ref u0), some (.int u1), some (.int u2), none] [] h4 _
  refine q_aload_n dX2_readArray_7 rfl ?_
  obtain ⟨fs8, x8, f8, g8, hq⟩ := vgb_e hq
  refine q_getf (k := 0) (T := TX2) (C0 := RX2) (N := 2) (ci := 4) dX2_readArray_8 fl_RX2_12 rfl uin_RX2 (by decide) rfl f8 g8 ?_
  refine q_bipush (v := 93) dX2_readArray_11 (by decide) ?_
  obtain ⟨⟨fs13, f13⟩, hq⟩ := vob_e hq
  refine q_cV (Y := mX0_passes) (As := [.int 93]) (st := []) (b := x8) (ci := 2) vc_X0_passes dX2_readArray_13 ml_RX2_98 rfl f13 rfl (Nat.le_of_ble_eq_true rfl) rfl (Nat.le_of_ble_eq_true rfl) hq (fun v h1 hq1 => ?_) (fun E h1 hq1 => ?_)
  rotate_left
  ·
    rcases hq1 with hq1 | ⟨E1, e1, hq1⟩
    · obtain ⟨_, z, _⟩ := hq1; exact nomatch z
    · obtain rfl := Sum.inr.inj e1; exact q_xout (fun z hz => nomatch hz) hq1
  rcases hq1 with hq1 | ⟨E1, e1, hq1⟩
  rotate_left
  · exact nomatch e1
  obtain ⟨x13, hv, hq⟩ := hq1
  obtain rfl := Sum.inl.inj hv
  clear hv
  obtain ⟨h13, eh13⟩ : ∃ z, z = h1 := ⟨_, rfl⟩
  rw [← eh13] at hq ⊢
  clear eh13
  show mv_rq l G mX2_readArray (d + 1) 16 [some (.ref u0), some (.int u1), some (.int u2), none] [.int x13] h13 _
  refine q_if_eq (tgt := 20) dX2_readArray_16 (by decide) (fun c16 => ?_) (fun c16 => ?_)
  ·
    have hq := vif_t hq c16
    refine q_iconst (v := 0) dX2_readArray_20 (by decide) ?_
    refine q_istore_n dX2_readArray_21 (Nat.le_of_ble_eq_true rfl) rfl ?_
    show mv_rq l G mX2_readArray (d + 1) 22 [some (.ref u0), some (.int u1), some (.int u2), some (.int 0)] [] h13 _
    exact mv_weak (A := [some (.ref u0), some (.int u1), some (.int u2), some (.int 0)]) (by repeat' constructor) hq
  ·
    have hq := vif_f hq c16
    exact q_vret dX2_readArray_19 rfl hq
def w_X2_readArray_22 (l : Launch) (G : mv_G) (d : Nat) (u0 : Nat) (u1 : Int32) (u2 : Int32) (u3 : Int32) (h : mv_H) (Q : mv_O → mv_H → Prop) : Prop :=
  vst G RX2 29 "" fun a24 =>
  vob h u0 4 (
  mv_rq l G mX2_readValue d 0 (mv_in [.ref u0, .int u1, .ref a24, .int u2] 6) [] h (vU (fun E h1 => Q (.inr E) h1) (fun h27 =>
  vif (40 ≤ (u3 + 1)) (
    mv_rq l G mX2_readArray (d + 1) 51 [some (.ref u0), none, none, none] [] h27 Q) (
    vgb h27 u0 4 0 fun x40 =>
    vob h27 x40 2 (
    mv_rq l G mX0_passes d 0 (mv_in [.ref x40, .int 44] 2) [] h27 (vI (fun E h1 => Q (.inr E) h1) (fun x45 h45 =>
    vif (x45 = 0) (
      mv_rq l G mX2_readArray (d + 1) 51 [some (.ref u0), none, none, none] [] h45 Q) (
      mv_rq l G mX2_readArray (d + 1) 22 [some (.ref u0), some (.int u1), some (.int u2), some (.int (u3 + 1))] [] h45 Q))))))))
theorem v_X2_readArray_22 {l : Launch} {G : mv_G} {d : Nat} {u0 : Nat} {u1 : Int32} {u2 : Int32} {u3 : Int32} {h : mv_H} {Q : mv_O → mv_H → Prop} (hG : mv_ok G) (hq : w_X2_readArray_22 l G d u0 u1 u2 u3 h Q) : mv_rq l G mX2_readArray (d + 1) 22 [some (.ref u0), some (.int u1), some (.int u2), some (.int u3)] [] h Q := by
  unfold w_X2_readArray_22 at hq
  refine q_aload_n dX2_readArray_22 rfl ?_
  refine q_iload_n dX2_readArray_23 rfl ?_
  obtain ⟨a24, ea24, hq⟩ := vst_e hq
  refine q_ldcS dX2_readArray_24 ea24 ?_
  refine q_iload_n dX2_readArray_26 rfl ?_
  obtain ⟨⟨fs27, f27⟩, hq⟩ := vob_e hq
  refine q_cV (Y := mX2_readValue) (As := [.int u1, .ref a24, .int u2]) (st := []) (b := u0) (ci := 4) vc_X2_readValue dX2_readArray_27 ml_RX2_31 rfl f27 rfl (Nat.le_of_ble_eq_true rfl) rfl (Nat.le_of_ble_eq_true rfl) hq (fun v h1 hq1 => ?_) (fun E h1 hq1 => ?_)
  rotate_left
  ·
    rcases hq1 with hq1 | ⟨E1, e1, hq1⟩
    · exact nomatch hq1.1
    · obtain rfl := Sum.inr.inj e1; exact q_xout (fun z hz => nomatch hz) hq1
  rcases hq1 with hq1 | ⟨E1, e1, hq1⟩
  rotate_left
  · exact nomatch e1
  obtain ⟨hv, hq⟩ := hq1
  obtain rfl := Sum.inl.inj hv
  clear hv
  obtain ⟨h27, eh27⟩ : ∃ z, z = h1 := ⟨_, rfl⟩
  rw [← eh27] at hq ⊢
  clear eh27
  show mv_rq l G mX2_readArray (d + 1) 30 [some (.ref u0), some (.int u1), some (.int u2), some (.int u3)] [] h27 _
  refine q_iinc dX2_readArray_30 rfl rfl ?_
  show mv_rq l G mX2_readArray (d + 1) 33 [some (.ref u0), some (.int u1), some (.int u2), some (.int (u3 + 1))] [] h27 _
  refine q_iload_n dX2_readArray_33 rfl ?_
  refine q_bipush (v := 40) dX2_readArray_34 (by decide) ?_
  refine q_icmp_ge (tgt := 51) dX2_readArray_36 (by decide) (fun c36 => ?_) (fun c36 => ?_)
  ·
    have hq := vif_t hq c36
    exact mv_weak (A := [some (.ref u0), none, none, none]) (by repeat' constructor) hq
  ·
    have hq := vif_f hq c36
    refine q_aload_n dX2_readArray_39 rfl ?_
    obtain ⟨fs40, x40, f40, g40, hq⟩ := vgb_e hq
    refine q_getf (k := 0) (T := TX2) (C0 := RX2) (N := 2) (ci := 4) dX2_readArray_40 fl_RX2_12 rfl uin_RX2 (by decide) rfl f40 g40 ?_
    refine q_bipush (v := 44) dX2_readArray_43 (by decide) ?_
    obtain ⟨⟨fs45, f45⟩, hq⟩ := vob_e hq
    refine q_cV (Y := mX0_passes) (As := [.int 44]) (st := []) (b := x40) (ci := 2) vc_X0_passes dX2_readArray_45 ml_RX2_98 rfl f45 rfl (Nat.le_of_ble_eq_true rfl) rfl (Nat.le_of_ble_eq_true rfl) hq (fun v h1 hq1 => ?_) (fun E h1 hq1 => ?_)
    rotate_left
    ·
      rcases hq1 with hq1 | ⟨E1, e1, hq1⟩
      · obtain ⟨_, z, _⟩ := hq1; exact nomatch z
      · obtain rfl := Sum.inr.inj e1; exact q_xout (fun z hz => nomatch hz) hq1
    rcases hq1 with hq1 | ⟨E1, e1, hq1⟩
    rotate_left
    · exact nomatch e1
    obtain ⟨x45, hv, hq⟩ := hq1
    obtain rfl := Sum.inl.inj hv
    clear hv
    obtain ⟨h45, eh45⟩ : ∃ z, z = h1 := ⟨_, rfl⟩
    rw [← eh45] at hq ⊢
    clear eh45
    show mv_rq l G mX2_readArray (d + 1) 48 [some (.ref u0), some (.int u1), some (.int u2), some (.int (u3 + 1))] [.int x45] h45 _
    refine q_if_ne (tgt := 22) dX2_readArray_48 (by decide) (fun c48 => ?_) (fun c48 => ?_)
    ·
      have hq := vif_f hq c48
      exact mv_weak (A := [some (.ref u0), some (.int u1), some (.int u2), some (.int (u3 + 1))]) (by repeat' constructor) hq
    ·
      have hq := vif_t hq c48
      exact mv_weak (A := [some (.ref u0), none, none, none]) (by repeat' constructor) hq
def w_X2_readArray_51 (l : Launch) (G : mv_G) (d : Nat) (u0 : Nat) (h : mv_H) (Q : mv_O → mv_H → Prop) : Prop :=
  vgb h u0 4 0 fun x52 =>
  vob h x52 2 (
  mv_rq l G mX0_expect d 0 (mv_in [.ref x52, .int 93] 2) [] h (vU (fun E h1 => Q (.inr E) h1) (fun h57 =>
  Q (.inl none) h57)))
theorem v_X2_readArray_51 {l : Launch} {G : mv_G} {d : Nat} {u0 : Nat} {h : mv_H} {Q : mv_O → mv_H → Prop} (hG : mv_ok G) (hq : w_X2_readArray_51 l G d u0 h Q) : mv_rq l G mX2_readArray (d + 1) 51 [some (.ref u0), none, none, none] [] h Q := by
  unfold w_X2_readArray_51 at hq
  refine q_aload_n dX2_readArray_51 rfl ?_
  obtain ⟨fs52, x52, f52, g52, hq⟩ := vgb_e hq
  refine q_getf (k := 0) (T := TX2) (C0 := RX2) (N := 2) (ci := 4) dX2_readArray_52 fl_RX2_12 rfl uin_RX2 (by decide) rfl f52 g52 ?_
  refine q_bipush (v := 93) dX2_readArray_55 (by decide) ?_
  obtain ⟨⟨fs57, f57⟩, hq⟩ := vob_e hq
  refine q_cV (Y := mX0_expect) (As := [.int 93]) (st := []) (b := x52) (ci := 2) vc_X0_expect dX2_readArray_57 ml_RX2_102 rfl f57 rfl (Nat.le_of_ble_eq_true rfl) rfl (Nat.le_of_ble_eq_true rfl) hq (fun v h1 hq1 => ?_) (fun E h1 hq1 => ?_)
  rotate_left
  ·
    rcases hq1 with hq1 | ⟨E1, e1, hq1⟩
    · exact nomatch hq1.1
    · obtain rfl := Sum.inr.inj e1; exact q_xout (fun z hz => nomatch hz) hq1
  rcases hq1 with hq1 | ⟨E1, e1, hq1⟩
  rotate_left
  · exact nomatch e1
  obtain ⟨hv, hq⟩ := hq1
  obtain rfl := Sum.inl.inj hv
  clear hv
  obtain ⟨h57, eh57⟩ : ∃ z, z = h1 := ⟨_, rfl⟩
  rw [← eh57] at hq ⊢
  clear eh57
  show mv_rq l G mX2_readArray (d + 1) 60 [some (.ref u0), none, none, none] [] h57 _
  exact q_vret dX2_readArray_60 rfl hq
def w_X2_readObject (l : Launch) (G : mv_G) (d : Nat) (u0 : Nat) (u1 : Int32) (u2 : Int32) (h : mv_H) (Q : mv_O → mv_H → Prop) : Prop :=
  vob h u0 4 (
  mv_rq l G mX2_openHolder d 0 (mv_in [.ref u0, .int u1, .int 6, .int u2] 4) [] h (vU (fun E h1 => Q (.inr E) h1) (fun h5 =>
  vgb h5 u0 4 0 fun x9 =>
  vob h5 x9 2 (
  mv_rq l G mX0_passes d 0 (mv_in [.ref x9, .int 125] 2) [] h5 (vI (fun E h1 => Q (.inr E) h1) (fun x14 h14 =>
  vif (x14 = 0) (
    mv_rq l G mX2_readObject (d + 1) 23 [some (.ref u0), some (.int u1), some (.int u2), some (.int 0)] [] h14 Q) (
    Q (.inl none) h14)))))))
theorem v_X2_readObject {l : Launch} {G : mv_G} {d : Nat} {u0 : Nat} {u1 : Int32} {u2 : Int32} {h : mv_H} {Q : mv_O → mv_H → Prop} (hG : mv_ok G) (hq : w_X2_readObject l G d u0 u1 u2 h Q) : mv_rq l G mX2_readObject (d + 1) 0 (mv_in [.ref u0, .int u1, .int u2] 4) [] h Q := by
  unfold w_X2_readObject at hq
  show mv_rq l G mX2_readObject (d + 1) 0 [some (.ref u0), some (.int u1), some (.int u2), none] [] h _
  refine q_aload_n dX2_readObject_0 rfl ?_
  refine q_iload_n dX2_readObject_1 rfl ?_
  refine q_bipush (v := 6) dX2_readObject_2 (by decide) ?_
  refine q_iload_n dX2_readObject_4 rfl ?_
  obtain ⟨⟨fs5, f5⟩, hq⟩ := vob_e hq
  refine q_cV (Y := mX2_openHolder) (As := [.int u1, .int 6, .int u2]) (st := []) (b := u0) (ci := 4) vc_X2_openHolder dX2_readObject_5 ml_RX2_94 rfl f5 rfl (Nat.le_of_ble_eq_true rfl) rfl (Nat.le_of_ble_eq_true rfl) hq (fun v h1 hq1 => ?_) (fun E h1 hq1 => ?_)
  rotate_left
  ·
    rcases hq1 with hq1 | ⟨E1, e1, hq1⟩
    · exact nomatch hq1.1
    · obtain rfl := Sum.inr.inj e1; exact q_xout (fun z hz => nomatch hz) hq1
  rcases hq1 with hq1 | ⟨E1, e1, hq1⟩
  rotate_left
  · exact nomatch e1
  obtain ⟨hv, hq⟩ := hq1
  obtain rfl := Sum.inl.inj hv
  clear hv
  obtain ⟨h5, eh5⟩ : ∃ z, z = h1 := ⟨_, rfl⟩
  rw [← eh5] at hq ⊢
  clear eh5
  show mv_rq l G mX2_readObject (d + 1) 8 [some (.ref u0), some (.int u1), some (.int u2), none] [] h5 _
  refine q_aload_n dX2_readObject_8 rfl ?_
  obtain ⟨fs9, x9, f9, g9, hq⟩ := vgb_e hq
  refine q_getf (k := 0) (T := TX2) (C0 := RX2) (N := 2) (ci := 4) dX2_readObject_9 fl_RX2_12 rfl uin_RX2 (by decide) rfl f9 g9 ?_
  refine q_bipush (v := 125) dX2_readObject_12 (by decide) ?_
  obtain ⟨⟨fs14, f14⟩, hq⟩ := vob_e hq
  refine q_cV (Y := mX0_passes) (As := [.int 125]) (st := []) (b := x9) (ci := 2) vc_X0_passes dX2_readObject_14 ml_RX2_98 rfl f14 rfl (Nat.le_of_ble_eq_true rfl) rfl (Nat.le_of_ble_eq_true rfl) hq (fun v h1 hq1 => ?_) (fun E h1 hq1 => ?_)
  rotate_left
  ·
    rcases hq1 with hq1 | ⟨E1, e1, hq1⟩
    · obtain ⟨_, z, _⟩ := hq1; exact nomatch z
    · obtain rfl := Sum.inr.inj e1; exact q_xout (fun z hz => nomatch hz) hq1
  rcases hq1 with hq1 | ⟨E1, e1, hq1⟩
  rotate_left
  · exact nomatch e1
  obtain ⟨x14, hv, hq⟩ := hq1
  obtain rfl := Sum.inl.inj hv
  clear hv
  obtain ⟨h14, eh14⟩ : ∃ z, z = h1 := ⟨_, rfl⟩
  rw [← eh14] at hq ⊢
  clear eh14
  show mv_rq l G mX2_readObject (d + 1) 17 [some (.ref u0), some (.int u1), some (.int u2), none] [.int x14] h14 _
  refine q_if_eq (tgt := 21) dX2_readObject_17 (by decide) (fun c17 => ?_) (fun c17 => ?_)
  ·
    have hq := vif_t hq c17
    refine q_iconst (v := 0) dX2_readObject_21 (by decide) ?_
    refine q_istore_n dX2_readObject_22 (Nat.le_of_ble_eq_true rfl) rfl ?_
    show mv_rq l G mX2_readObject (d + 1) 23 [some (.ref u0), some (.int u1), some (.int u2), some (.int 0)] [] h14 _
    exact mv_weak (A := [some (.ref u0), some (.int u1), some (.int u2), some (.int 0)]) (by repeat' constructor) hq
  ·
    have hq := vif_f hq c17
    exact q_vret dX2_readObject_20 rfl hq
def w_X2_readObject_23 (l : Launch) (G : mv_G) (d : Nat) (u0 : Nat) (u1 : Int32) (u2 : Int32) (u3 : Int32) (h : mv_H) (Q : mv_O → mv_H → Prop) : Prop :=
  vob h u0 4 (
  mv_rq l G mX2_readMemberName d 0 (mv_in [.ref u0, .int u1] 4) [] h (vB (fun E h1 => Q (.inr E) h1) (fun x27 h27 =>
  vob h27 u0 4 (
  mv_rq l G mX2_readValue d 0 (mv_in [.ref u0, .int u1, .ref x27, .int u2] 6) [] h27 (vU (fun E h1 => Q (.inr E) h1) (fun h31 =>
  vif (40 ≤ (u3 + 1)) (
    mv_rq l G mX2_readObject (d + 1) 55 [some (.ref u0), none, none, none] [] h31 Q) (
    vgb h31 u0 4 0 fun x44 =>
    vob h31 x44 2 (
    mv_rq l G mX0_passes d 0 (mv_in [.ref x44, .int 44] 2) [] h31 (vI (fun E h1 => Q (.inr E) h1) (fun x49 h49 =>
    vif (x49 = 0) (
      mv_rq l G mX2_readObject (d + 1) 55 [some (.ref u0), none, none, none] [] h49 Q) (
      mv_rq l G mX2_readObject (d + 1) 23 [some (.ref u0), some (.int u1), some (.int u2), some (.int (u3 + 1))] [] h49 Q)))))))))))
theorem v_X2_readObject_23 {l : Launch} {G : mv_G} {d : Nat} {u0 : Nat} {u1 : Int32} {u2 : Int32} {u3 : Int32} {h : mv_H} {Q : mv_O → mv_H → Prop} (hG : mv_ok G) (hq : w_X2_readObject_23 l G d u0 u1 u2 u3 h Q) : mv_rq l G mX2_readObject (d + 1) 23 [some (.ref u0), some (.int u1), some (.int u2), some (.int u3)] [] h Q := by
  unfold w_X2_readObject_23 at hq
  refine q_aload_n dX2_readObject_23 rfl ?_
  refine q_iload_n dX2_readObject_24 rfl ?_
  refine q_aload_n dX2_readObject_25 rfl ?_
  refine q_iload_n dX2_readObject_26 rfl ?_
  obtain ⟨⟨fs27, f27⟩, hq⟩ := vob_e hq
  refine q_cV (Y := mX2_readMemberName) (As := [.int u1]) (st := [.int u1, .ref u0]) (b := u0) (ci := 4) vc_X2_readMemberName dX2_readObject_27 ml_RX2_106 rfl f27 rfl (Nat.le_of_ble_eq_true rfl) rfl (Nat.le_of_ble_eq_true rfl) hq (fun v h1 hq1 => ?_) (fun E h1 hq1 => ?_)
  rotate_left
  ·
    rcases hq1 with hq1 | ⟨E1, e1, hq1⟩
    · obtain ⟨_, z, _⟩ := hq1; exact nomatch z
    · obtain rfl := Sum.inr.inj e1; exact q_xout (fun z hz => nomatch hz) hq1
  rcases hq1 with hq1 | ⟨E1, e1, hq1⟩
  rotate_left
  · exact nomatch e1
  obtain ⟨x27, hv, hq⟩ := hq1
  obtain rfl := Sum.inl.inj hv
  clear hv
  obtain ⟨h27, eh27⟩ : ∃ z, z = h1 := ⟨_, rfl⟩
  rw [← eh27] at hq ⊢
  clear eh27
  show mv_rq l G mX2_readObject (d + 1) 30 [some (.ref u0), some (.int u1), some (.int u2), some (.int u3)] [.ref x27, .int u1, .ref u0] h27 _
  refine q_iload_n dX2_readObject_30 rfl ?_
  obtain ⟨⟨fs31, f31⟩, hq⟩ := vob_e hq
  refine q_cV (Y := mX2_readValue) (As := [.int u1, .ref x27, .int u2]) (st := []) (b := u0) (ci := 4) vc_X2_readValue dX2_readObject_31 ml_RX2_31 rfl f31 rfl (Nat.le_of_ble_eq_true rfl) rfl (Nat.le_of_ble_eq_true rfl) hq (fun v h1 hq1 => ?_) (fun E h1 hq1 => ?_)
  rotate_left
  ·
    rcases hq1 with hq1 | ⟨E1, e1, hq1⟩
    · exact nomatch hq1.1
    · obtain rfl := Sum.inr.inj e1; exact q_xout (fun z hz => nomatch hz) hq1
  rcases hq1 with hq1 | ⟨E1, e1, hq1⟩
  rotate_left
  · exact nomatch e1
  obtain ⟨hv, hq⟩ := hq1
  obtain rfl := Sum.inl.inj hv
  clear hv
  obtain ⟨h31, eh31⟩ : ∃ z, z = h1 := ⟨_, rfl⟩
  rw [← eh31] at hq ⊢
  clear eh31
  show mv_rq l G mX2_readObject (d + 1) 34 [some (.ref u0), some (.int u1), some (.int u2), some (.int u3)] [] h31 _
  refine q_iinc dX2_readObject_34 rfl rfl ?_
  show mv_rq l G mX2_readObject (d + 1) 37 [some (.ref u0), some (.int u1), some (.int u2), some (.int (u3 + 1))] [] h31 _
  refine q_iload_n dX2_readObject_37 rfl ?_
  refine q_bipush (v := 40) dX2_readObject_38 (by decide) ?_
  refine q_icmp_ge (tgt := 55) dX2_readObject_40 (by decide) (fun c40 => ?_) (fun c40 => ?_)
  ·
    have hq := vif_t hq c40
    exact mv_weak (A := [some (.ref u0), none, none, none]) (by repeat' constructor) hq
  ·
    have hq := vif_f hq c40
    refine q_aload_n dX2_readObject_43 rfl ?_
    obtain ⟨fs44, x44, f44, g44, hq⟩ := vgb_e hq
    refine q_getf (k := 0) (T := TX2) (C0 := RX2) (N := 2) (ci := 4) dX2_readObject_44 fl_RX2_12 rfl uin_RX2 (by decide) rfl f44 g44 ?_
    refine q_bipush (v := 44) dX2_readObject_47 (by decide) ?_
    obtain ⟨⟨fs49, f49⟩, hq⟩ := vob_e hq
    refine q_cV (Y := mX0_passes) (As := [.int 44]) (st := []) (b := x44) (ci := 2) vc_X0_passes dX2_readObject_49 ml_RX2_98 rfl f49 rfl (Nat.le_of_ble_eq_true rfl) rfl (Nat.le_of_ble_eq_true rfl) hq (fun v h1 hq1 => ?_) (fun E h1 hq1 => ?_)
    rotate_left
    ·
      rcases hq1 with hq1 | ⟨E1, e1, hq1⟩
      · obtain ⟨_, z, _⟩ := hq1; exact nomatch z
      · obtain rfl := Sum.inr.inj e1; exact q_xout (fun z hz => nomatch hz) hq1
    rcases hq1 with hq1 | ⟨E1, e1, hq1⟩
    rotate_left
    · exact nomatch e1
    obtain ⟨x49, hv, hq⟩ := hq1
    obtain rfl := Sum.inl.inj hv
    clear hv
    obtain ⟨h49, eh49⟩ : ∃ z, z = h1 := ⟨_, rfl⟩
    rw [← eh49] at hq ⊢
    clear eh49
    show mv_rq l G mX2_readObject (d + 1) 52 [some (.ref u0), some (.int u1), some (.int u2), some (.int (u3 + 1))] [.int x49] h49 _
    refine q_if_ne (tgt := 23) dX2_readObject_52 (by decide) (fun c52 => ?_) (fun c52 => ?_)
    ·
      have hq := vif_f hq c52
      exact mv_weak (A := [some (.ref u0), some (.int u1), some (.int u2), some (.int (u3 + 1))]) (by repeat' constructor) hq
    ·
      have hq := vif_t hq c52
      exact mv_weak (A := [some (.ref u0), none, none, none]) (by repeat' constructor) hq
def w_X2_readObject_55 (l : Launch) (G : mv_G) (d : Nat) (u0 : Nat) (h : mv_H) (Q : mv_O → mv_H → Prop) : Prop :=
  vgb h u0 4 0 fun x56 =>
  vob h x56 2 (
  mv_rq l G mX0_expect d 0 (mv_in [.ref x56, .int 125] 2) [] h (vU (fun E h1 => Q (.inr E) h1) (fun h61 =>
  Q (.inl none) h61)))
theorem v_X2_readObject_55 {l : Launch} {G : mv_G} {d : Nat} {u0 : Nat} {h : mv_H} {Q : mv_O → mv_H → Prop} (hG : mv_ok G) (hq : w_X2_readObject_55 l G d u0 h Q) : mv_rq l G mX2_readObject (d + 1) 55 [some (.ref u0), none, none, none] [] h Q := by
  unfold w_X2_readObject_55 at hq
  refine q_aload_n dX2_readObject_55 rfl ?_
  obtain ⟨fs56, x56, f56, g56, hq⟩ := vgb_e hq
  refine q_getf (k := 0) (T := TX2) (C0 := RX2) (N := 2) (ci := 4) dX2_readObject_56 fl_RX2_12 rfl uin_RX2 (by decide) rfl f56 g56 ?_
  refine q_bipush (v := 125) dX2_readObject_59 (by decide) ?_
  obtain ⟨⟨fs61, f61⟩, hq⟩ := vob_e hq
  refine q_cV (Y := mX0_expect) (As := [.int 125]) (st := []) (b := x56) (ci := 2) vc_X0_expect dX2_readObject_61 ml_RX2_102 rfl f61 rfl (Nat.le_of_ble_eq_true rfl) rfl (Nat.le_of_ble_eq_true rfl) hq (fun v h1 hq1 => ?_) (fun E h1 hq1 => ?_)
  rotate_left
  ·
    rcases hq1 with hq1 | ⟨E1, e1, hq1⟩
    · exact nomatch hq1.1
    · obtain rfl := Sum.inr.inj e1; exact q_xout (fun z hz => nomatch hz) hq1
  rcases hq1 with hq1 | ⟨E1, e1, hq1⟩
  rotate_left
  · exact nomatch e1
  obtain ⟨hv, hq⟩ := hq1
  obtain rfl := Sum.inl.inj hv
  clear hv
  obtain ⟨h61, eh61⟩ : ∃ z, z = h1 := ⟨_, rfl⟩
  rw [← eh61] at hq ⊢
  clear eh61
  show mv_rq l G mX2_readObject (d + 1) 64 [some (.ref u0), none, none, none] [] h61 _
  exact q_vret dX2_readObject_64 rfl hq
def w_X2_readMemberName (l : Launch) (G : mv_G) (d : Nat) (u0 : Nat) (u1 : Int32) (h : mv_H) (Q : mv_O → mv_H → Prop) : Prop :=
  vgb h u0 4 0 fun x1 =>
  vob h x1 2 (
  mv_rq l G mX0_skipBlanks d 0 (mv_in [.ref x1] 2) [] h (vU (fun E h1 => Q (.inr E) h1) (fun h4 =>
  vgb h4 u0 4 0 fun x8 =>
  vgi h4 x8 2 1 fun x11 =>
  vgb h4 u0 4 0 fun x16 =>
  vob h4 x16 2 (
  mv_rq l G mX0_readString d 0 (mv_in [.ref x16, .int 34, .int 92] 5) [] h4 (vB (fun E h1 => Q (.inr E) h1) (fun x23 h23 =>
  vgb h23 u0 4 1 fun x28 =>
  vob h23 x28 3 (
  mv_rq l G mX1_childNamed d 0 (mv_in [.ref x28, .int u1, .ref x23] 5) [] h23 (vI (fun E h1 => Q (.inr E) h1) (fun x33 h33 =>
  vif (x33 = (-1)) (
    mv_rq l G mX2_readMemberName (d + 1) 48 [some (.ref u0), none, none, some (.ref x23)] [] h33 Q) (
    vgb h33 u0 4 0 fun x41 =>
    vob h33 x41 2 (
    mv_rq l G mX0_refuse d 0 (mv_in [.ref x41, .int x11] 2) [] h33 (vU (fun E h1 => Q (.inr E) h1) (fun h45 =>
    mv_rq l G mX2_readMemberName (d + 1) 48 [some (.ref u0), none, none, some (.ref x23)] [] h45 Q)))))))))))))
theorem v_X2_readMemberName {l : Launch} {G : mv_G} {d : Nat} {u0 : Nat} {u1 : Int32} {h : mv_H} {Q : mv_O → mv_H → Prop} (hG : mv_ok G) (hq : w_X2_readMemberName l G d u0 u1 h Q) : mv_rq l G mX2_readMemberName (d + 1) 0 (mv_in [.ref u0, .int u1] 4) [] h Q := by
  unfold w_X2_readMemberName at hq
  show mv_rq l G mX2_readMemberName (d + 1) 0 [some (.ref u0), some (.int u1), none, none] [] h _
  refine q_aload_n dX2_readMemberName_0 rfl ?_
  obtain ⟨fs1, x1, f1, g1, hq⟩ := vgb_e hq
  refine q_getf (k := 0) (T := TX2) (C0 := RX2) (N := 2) (ci := 4) dX2_readMemberName_1 fl_RX2_12 rfl uin_RX2 (by decide) rfl f1 g1 ?_
  obtain ⟨⟨fs4, f4⟩, hq⟩ := vob_e hq
  refine q_cV (Y := mX0_skipBlanks) (As := []) (st := []) (b := x1) (ci := 2) vc_X0_skipBlanks dX2_readMemberName_4 ml_RX2_44 rfl f4 rfl (Nat.le_of_ble_eq_true rfl) rfl (Nat.le_of_ble_eq_true rfl) hq (fun v h1 hq1 => ?_) (fun E h1 hq1 => ?_)
  rotate_left
  ·
    rcases hq1 with hq1 | ⟨E1, e1, hq1⟩
    · exact nomatch hq1.1
    · obtain rfl := Sum.inr.inj e1; exact q_xout (fun z hz => nomatch hz) hq1
  rcases hq1 with hq1 | ⟨E1, e1, hq1⟩
  rotate_left
  · exact nomatch e1
  obtain ⟨hv, hq⟩ := hq1
  obtain rfl := Sum.inl.inj hv
  clear hv
  obtain ⟨h4, eh4⟩ : ∃ z, z = h1 := ⟨_, rfl⟩
  rw [← eh4] at hq ⊢
  clear eh4
  show mv_rq l G mX2_readMemberName (d + 1) 7 [some (.ref u0), some (.int u1), none, none] [] h4 _
  refine q_aload_n dX2_readMemberName_7 rfl ?_
  obtain ⟨fs8, x8, f8, g8, hq⟩ := vgb_e hq
  refine q_getf (k := 0) (T := TX2) (C0 := RX2) (N := 2) (ci := 4) dX2_readMemberName_8 fl_RX2_12 rfl uin_RX2 (by decide) rfl f8 g8 ?_
  obtain ⟨fs11, x11, f11, g11, hq⟩ := vgi_e hq
  refine q_getf (k := 1) (T := TX0) (C0 := RX0) (N := 3) (ci := 2) dX2_readMemberName_11 fl_RX2_50 rfl uin_RX0 (by decide) rfl f11 g11 ?_
  refine q_istore_n dX2_readMemberName_14 (Nat.le_of_ble_eq_true rfl) rfl ?_
  show mv_rq l G mX2_readMemberName (d + 1) 15 [some (.ref u0), some (.int u1), some (.int x11), none] [] h4 _
  refine q_aload_n dX2_readMemberName_15 rfl ?_
  obtain ⟨fs16, x16, f16, g16, hq⟩ := vgb_e hq
  refine q_getf (k := 0) (T := TX2) (C0 := RX2) (N := 2) (ci := 4) dX2_readMemberName_16 fl_RX2_12 rfl uin_RX2 (by decide) rfl f16 g16 ?_
  refine q_bipush (v := 34) dX2_readMemberName_19 (by decide) ?_
  refine q_bipush (v := 92) dX2_readMemberName_21 (by decide) ?_
  obtain ⟨⟨fs23, f23⟩, hq⟩ := vob_e hq
  refine q_cV (Y := mX0_readString) (As := [.int 34, .int 92]) (st := []) (b := x16) (ci := 2) vc_X0_readString dX2_readMemberName_23 ml_RX2_110 rfl f23 rfl (Nat.le_of_ble_eq_true rfl) rfl (Nat.le_of_ble_eq_true rfl) hq (fun v h1 hq1 => ?_) (fun E h1 hq1 => ?_)
  rotate_left
  ·
    rcases hq1 with hq1 | ⟨E1, e1, hq1⟩
    · obtain ⟨_, z, _⟩ := hq1; exact nomatch z
    · obtain rfl := Sum.inr.inj e1; exact q_xout (fun z hz => nomatch hz) hq1
  rcases hq1 with hq1 | ⟨E1, e1, hq1⟩
  rotate_left
  · exact nomatch e1
  obtain ⟨x23, hv, hq⟩ := hq1
  obtain rfl := Sum.inl.inj hv
  clear hv
  obtain ⟨h23, eh23⟩ : ∃ z, z = h1 := ⟨_, rfl⟩
  rw [← eh23] at hq ⊢
  clear eh23
  show mv_rq l G mX2_readMemberName (d + 1) 26 [some (.ref u0), some (.int u1), some (.int x11), none] [.ref x23] h23 _
  refine q_astore_n dX2_readMemberName_26 (Nat.le_of_ble_eq_true rfl) rfl ?_
  show mv_rq l G mX2_readMemberName (d + 1) 27 [some (.ref u0), some (.int u1), some (.int x11), some (.ref x23)] [] h23 _
  refine q_aload_n dX2_readMemberName_27 rfl ?_
  obtain ⟨fs28, x28, f28, g28, hq⟩ := vgb_e hq
  refine q_getf (k := 1) (T := TX2) (C0 := RX2) (N := 2) (ci := 4) dX2_readMemberName_28 fl_RX2_18 rfl uin_RX2 (by decide) rfl f28 g28 ?_
  refine q_iload_n dX2_readMemberName_31 rfl ?_
  refine q_aload_n dX2_readMemberName_32 rfl ?_
  obtain ⟨⟨fs33, f33⟩, hq⟩ := vob_e hq
  refine q_cV (Y := mX1_childNamed) (As := [.int u1, .ref x23]) (st := []) (b := x28) (ci := 3) vc_X1_childNamed dX2_readMemberName_33 ml_RX2_114 rfl f33 rfl (Nat.le_of_ble_eq_true rfl) rfl (Nat.le_of_ble_eq_true rfl) hq (fun v h1 hq1 => ?_) (fun E h1 hq1 => ?_)
  rotate_left
  ·
    rcases hq1 with hq1 | ⟨E1, e1, hq1⟩
    · obtain ⟨_, z, _⟩ := hq1; exact nomatch z
    · obtain rfl := Sum.inr.inj e1; exact q_xout (fun z hz => nomatch hz) hq1
  rcases hq1 with hq1 | ⟨E1, e1, hq1⟩
  rotate_left
  · exact nomatch e1
  obtain ⟨x33, hv, hq⟩ := hq1
  obtain rfl := Sum.inl.inj hv
  clear hv
  obtain ⟨h33, eh33⟩ : ∃ z, z = h1 := ⟨_, rfl⟩
  rw [← eh33] at hq ⊢
  clear eh33
  show mv_rq l G mX2_readMemberName (d + 1) 36 [some (.ref u0), some (.int u1), some (.int x11), some (.ref x23)] [.int x33] h33 _
  refine q_iconst (v := (-1)) dX2_readMemberName_36 (by decide) ?_
  refine q_icmp_eq (tgt := 48) dX2_readMemberName_37 (by decide) (fun c37 => ?_) (fun c37 => ?_)
  ·
    have hq := vif_t hq c37
    exact mv_weak (A := [some (.ref u0), none, none, some (.ref x23)]) (by repeat' constructor) hq
  ·
    have hq := vif_f hq c37
    refine q_aload_n dX2_readMemberName_40 rfl ?_
    obtain ⟨fs41, x41, f41, g41, hq⟩ := vgb_e hq
    refine q_getf (k := 0) (T := TX2) (C0 := RX2) (N := 2) (ci := 4) dX2_readMemberName_41 fl_RX2_12 rfl uin_RX2 (by decide) rfl f41 g41 ?_
    refine q_iload_n dX2_readMemberName_44 rfl ?_
    obtain ⟨⟨fs45, f45⟩, hq⟩ := vob_e hq
    refine q_cV (Y := mX0_refuse) (As := [.int x11]) (st := []) (b := x41) (ci := 2) vc_X0_refuse dX2_readMemberName_45 ml_RX2_53 rfl f45 rfl (Nat.le_of_ble_eq_true rfl) rfl (Nat.le_of_ble_eq_true rfl) hq (fun v h1 hq1 => ?_) (fun E h1 hq1 => ?_)
    rotate_left
    ·
      rcases hq1 with hq1 | ⟨E1, e1, hq1⟩
      · exact nomatch hq1.1
      · obtain rfl := Sum.inr.inj e1; exact q_xout (fun z hz => nomatch hz) hq1
    rcases hq1 with hq1 | ⟨E1, e1, hq1⟩
    rotate_left
    · exact nomatch e1
    obtain ⟨hv, hq⟩ := hq1
    obtain rfl := Sum.inl.inj hv
    clear hv
    obtain ⟨h45, eh45⟩ : ∃ z, z = h1 := ⟨_, rfl⟩
    rw [← eh45] at hq ⊢
    clear eh45
    show mv_rq l G mX2_readMemberName (d + 1) 48 [some (.ref u0), some (.int u1), some (.int x11), some (.ref x23)] [] h45 _
    exact mv_weak (A := [some (.ref u0), none, none, some (.ref x23)]) (by repeat' constructor) hq
def w_X2_readMemberName_48 (l : Launch) (G : mv_G) (d : Nat) (u0 : Nat) (u3 : Nat) (h : mv_H) (Q : mv_O → mv_H → Prop) : Prop :=
  vgb h u0 4 0 fun x49 =>
  vob h x49 2 (
  mv_rq l G mX0_skipBlanks d 0 (mv_in [.ref x49] 2) [] h (vU (fun E h1 => Q (.inr E) h1) (fun h52 =>
  vgb h52 u0 4 0 fun x56 =>
  vob h52 x56 2 (
  mv_rq l G mX0_expect d 0 (mv_in [.ref x56, .int 58] 2) [] h52 (vU (fun E h1 => Q (.inr E) h1) (fun h61 =>
  Q (.inl (some (.ref u3))) h61))))))
theorem v_X2_readMemberName_48 {l : Launch} {G : mv_G} {d : Nat} {u0 : Nat} {u3 : Nat} {h : mv_H} {Q : mv_O → mv_H → Prop} (hG : mv_ok G) (hq : w_X2_readMemberName_48 l G d u0 u3 h Q) : mv_rq l G mX2_readMemberName (d + 1) 48 [some (.ref u0), none, none, some (.ref u3)] [] h Q := by
  unfold w_X2_readMemberName_48 at hq
  refine q_aload_n dX2_readMemberName_48 rfl ?_
  obtain ⟨fs49, x49, f49, g49, hq⟩ := vgb_e hq
  refine q_getf (k := 0) (T := TX2) (C0 := RX2) (N := 2) (ci := 4) dX2_readMemberName_49 fl_RX2_12 rfl uin_RX2 (by decide) rfl f49 g49 ?_
  obtain ⟨⟨fs52, f52⟩, hq⟩ := vob_e hq
  refine q_cV (Y := mX0_skipBlanks) (As := []) (st := []) (b := x49) (ci := 2) vc_X0_skipBlanks dX2_readMemberName_52 ml_RX2_44 rfl f52 rfl (Nat.le_of_ble_eq_true rfl) rfl (Nat.le_of_ble_eq_true rfl) hq (fun v h1 hq1 => ?_) (fun E h1 hq1 => ?_)
  rotate_left
  ·
    rcases hq1 with hq1 | ⟨E1, e1, hq1⟩
    · exact nomatch hq1.1
    · obtain rfl := Sum.inr.inj e1; exact q_xout (fun z hz => nomatch hz) hq1
  rcases hq1 with hq1 | ⟨E1, e1, hq1⟩
  rotate_left
  · exact nomatch e1
  obtain ⟨hv, hq⟩ := hq1
  obtain rfl := Sum.inl.inj hv
  clear hv
  obtain ⟨h52, eh52⟩ : ∃ z, z = h1 := ⟨_, rfl⟩
  rw [← eh52] at hq ⊢
  clear eh52
  show mv_rq l G mX2_readMemberName (d + 1) 55 [some (.ref u0), none, none, some (.ref u3)] [] h52 _
  refine q_aload_n dX2_readMemberName_55 rfl ?_
  obtain ⟨fs56, x56, f56, g56, hq⟩ := vgb_e hq
  refine q_getf (k := 0) (T := TX2) (C0 := RX2) (N := 2) (ci := 4) dX2_readMemberName_56 fl_RX2_12 rfl uin_RX2 (by decide) rfl f56 g56 ?_
  refine q_bipush (v := 58) dX2_readMemberName_59 (by decide) ?_
  obtain ⟨⟨fs61, f61⟩, hq⟩ := vob_e hq
  refine q_cV (Y := mX0_expect) (As := [.int 58]) (st := []) (b := x56) (ci := 2) vc_X0_expect dX2_readMemberName_61 ml_RX2_102 rfl f61 rfl (Nat.le_of_ble_eq_true rfl) rfl (Nat.le_of_ble_eq_true rfl) hq (fun v h1 hq1 => ?_) (fun E h1 hq1 => ?_)
  rotate_left
  ·
    rcases hq1 with hq1 | ⟨E1, e1, hq1⟩
    · exact nomatch hq1.1
    · obtain rfl := Sum.inr.inj e1; exact q_xout (fun z hz => nomatch hz) hq1
  rcases hq1 with hq1 | ⟨E1, e1, hq1⟩
  rotate_left
  · exact nomatch e1
  obtain ⟨hv, hq⟩ := hq1
  obtain rfl := Sum.inl.inj hv
  clear hv
  obtain ⟨h61, eh61⟩ : ∃ z, z = h1 := ⟨_, rfl⟩
  rw [← eh61] at hq ⊢
  clear eh61
  show mv_rq l G mX2_readMemberName (d + 1) 64 [some (.ref u0), none, none, some (.ref u3)] [] h61 _
  refine q_aload_n dX2_readMemberName_64 rfl ?_
  exact q_aret (rt := (.object "java/lang/String")) dX2_readMemberName_65 rfl (Or.inl ⟨_, rfl⟩) (Or.inr ⟨_, rfl⟩) hq
def w_X4_init (l : Launch) (G : mv_G) (d : Nat) (u0 : Nat) (u1 : Int32) (h : mv_H) (Q : mv_O → mv_H → Prop) : Prop :=
  vpu G h u0 6 1 (.null) fun h6 =>
  vpu G h6 u0 6 2 (.null) fun h11 =>
  vpu G h11 u0 6 3 (.int 0) fun h16 =>
  vpu G h16 u0 6 4 (.int 1) fun h21 =>
  narrow .boolean (.int u1) = .int u1 ∧ fits .boolean (.int u1) = true ∧
  vpu G h21 u0 6 0 (.int u1) fun h26 =>
  Q (.inl none) h26
theorem v_X4_init {l : Launch} {G : mv_G} {d : Nat} {u0 : Nat} {u1 : Int32} {h : mv_H} {Q : mv_O → mv_H → Prop} (hG : mv_ok G) (hq : w_X4_init l G d u0 u1 h Q) : mv_rq l G mX4_init (d + 1) 0 (mv_in [.ref u0, .int u1] 2) [] h Q := by
  unfold w_X4_init at hq
  show mv_rq l G mX4_init (d + 1) 0 [some (.ref u0), some (.int u1)] [] h _
  refine q_aload_n dX4_init_0 rfl ?_
  refine q_objI dX4_init_1 ml_RX4_1 obj_in obj_co rfl (Nat.le_of_ble_eq_true rfl) ?_
  refine q_aload_n dX4_init_4 rfl ?_
  refine q_null dX4_init_5 ?_
  obtain ⟨fs6, h6, f6, b6, l6, e6, hq⟩ := vpu_e hq
  refine q_putf (k := 1) (T := TX4) (C0 := RX4) (N := 5) (ci := 6) (ty := (.object "TreePaths$Segment")) tyX4 tyX4_ok nmX4 dX4_init_6 fl_RX4_7 rfl uin_RX4 (by decide) rfl rfl (by decide +kernel) rfl rfl b6 f6 l6 ?_
  rw [← e6]
  show mv_rq l G mX4_init (d + 1) 9 [some (.ref u0), some (.int u1)] [] h6 _
  refine q_aload_n dX4_init_9 rfl ?_
  refine q_null dX4_init_10 ?_
  obtain ⟨fs11, h11, f11, b11, l11, e11, hq⟩ := vpu_e hq
  refine q_putf (k := 2) (T := TX4) (C0 := RX4) (N := 5) (ci := 6) (ty := (.object "TreePaths$Segment")) tyX4 tyX4_ok nmX4 dX4_init_11 fl_RX4_13 rfl uin_RX4 (by decide) rfl rfl (by decide +kernel) rfl rfl b11 f11 l11 ?_
  rw [← e11]
  show mv_rq l G mX4_init (d + 1) 14 [some (.ref u0), some (.int u1)] [] h11 _
  refine q_aload_n dX4_init_14 rfl ?_
  refine q_iconst (v := 0) dX4_init_15 (by decide) ?_
  obtain ⟨fs16, h16, f16, b16, l16, e16, hq⟩ := vpu_e hq
  refine q_putf (k := 3) (T := TX4) (C0 := RX4) (N := 5) (ci := 6) (ty := .int) tyX4 tyX4_ok nmX4 dX4_init_16 fl_RX4_16 rfl uin_RX4 (by decide) rfl rfl (by decide +kernel) rfl rfl b16 f16 l16 ?_
  rw [← e16]
  show mv_rq l G mX4_init (d + 1) 19 [some (.ref u0), some (.int u1)] [] h16 _
  refine q_aload_n dX4_init_19 rfl ?_
  refine q_iconst (v := 1) dX4_init_20 (by decide) ?_
  obtain ⟨fs21, h21, f21, b21, l21, e21, hq⟩ := vpu_e hq
  refine q_putf (k := 4) (T := TX4) (C0 := RX4) (N := 5) (ci := 6) (ty := .boolean) tyX4 tyX4_ok nmX4 dX4_init_21 fl_RX4_20 rfl uin_RX4 (by decide) rfl rfl (by decide +kernel) rfl rfl b21 f21 l21 ?_
  rw [← e21]
  show mv_rq l G mX4_init (d + 1) 24 [some (.ref u0), some (.int u1)] [] h21 _
  refine q_aload_n dX4_init_24 rfl ?_
  refine q_iload_n dX4_init_25 rfl ?_
  obtain ⟨nr26, ft26, hq⟩ := hq
  obtain ⟨fs26, h26, f26, b26, l26, e26, hq⟩ := vpu_e hq
  refine q_putF (k := 0) (T := TX4) (C0 := RX4) (N := 5) (ci := 6) (ty := .boolean) tyX4 tyX4_ok nmX4 dX4_init_26 fl_RX4_24 rfl uin_RX4 (by decide) rfl rfl rfl rfl (by decide +kernel) nr26 ft26 b26 f26 l26 ?_
  rw [← e26]
  show mv_rq l G mX4_init (d + 1) 29 [some (.ref u0), some (.int u1)] [] h26 _
  exact q_vret dX4_init_29 rfl hq
def w_X4_add (l : Launch) (G : mv_G) (d : Nat) (u0 : Nat) (u1 : Nat) (h : mv_H) (Q : mv_O → mv_H → Prop) : Prop :=
  vgr h u0 6 2 fun x1 =>
  vnl x1 (
    vpu G h u0 6 1 (.ref u1) fun h9 =>
    mv_rq l G mX4_add (d + 1) 23 [some (.ref u0), some (.ref u1)] [] h9 Q) (fun a4 =>
    vgr h u0 6 2 fun x16 =>
    vnn x16 fun a20 =>
    vpu G h a20 9 3 (.ref u1) fun h20 =>
    mv_rq l G mX4_add (d + 1) 23 [some (.ref u0), some (.ref u1)] [] h20 Q)
theorem v_X4_add {l : Launch} {G : mv_G} {d : Nat} {u0 : Nat} {u1 : Nat} {h : mv_H} {Q : mv_O → mv_H → Prop} (hG : mv_ok G) (hq : w_X4_add l G d u0 u1 h Q) : mv_rq l G mX4_add (d + 1) 0 (mv_in [.ref u0, .ref u1] 2) [] h Q := by
  unfold w_X4_add at hq
  show mv_rq l G mX4_add (d + 1) 0 [some (.ref u0), some (.ref u1)] [] h _
  refine q_aload_n dX4_add_0 rfl ?_
  obtain ⟨fs1, x1, f1, g1, hq⟩ := vgr_e hq
  refine q_getf (k := 2) (T := TX4) (C0 := RX4) (N := 5) (ci := 6) dX4_add_1 fl_RX4_13 rfl uin_RX4 (by decide) rfl f1 g1 ?_
  refine q_ifnonnullV (tgt := 15) dX4_add_4 (by decide) (fun c4 => ?_) (fun a4 c4 => ?_)
  ·
    have hz := vnl_n hq c4
    clear hq
    subst c4
    have hq := hz
    clear hz
    show mv_rq l G mX4_add (d + 1) 7 [some (.ref u0), some (.ref u1)] [] h _
    refine q_aload_n dX4_add_7 rfl ?_
    refine q_aload_n dX4_add_8 rfl ?_
    obtain ⟨fs9, h9, f9, b9, l9, e9, hq⟩ := vpu_e hq
    refine q_putf (k := 1) (T := TX4) (C0 := RX4) (N := 5) (ci := 6) (ty := (.object "TreePaths$Segment")) tyX4 tyX4_ok nmX4 dX4_add_9 fl_RX4_7 rfl uin_RX4 (by decide) rfl rfl (by decide +kernel) rfl rfl b9 f9 l9 ?_
    rw [← e9]
    show mv_rq l G mX4_add (d + 1) 12 [some (.ref u0), some (.ref u1)] [] h9 _
    refine q_goto (tgt := 23) dX4_add_12 (by decide) ?_
    exact mv_weak (A := [some (.ref u0), some (.ref u1)]) (by repeat' constructor) hq
  ·
    have hz := vnl_s hq c4
    clear hq
    subst c4
    have hq := hz
    clear hz
    show mv_rq l G mX4_add (d + 1) 15 [some (.ref u0), some (.ref u1)] [] h _
    refine q_aload_n dX4_add_15 rfl ?_
    obtain ⟨fs16, x16, f16, g16, hq⟩ := vgr_e hq
    refine q_getf (k := 2) (T := TX4) (C0 := RX4) (N := 5) (ci := 6) dX4_add_16 fl_RX4_13 rfl uin_RX4 (by decide) rfl f16 g16 ?_
    refine q_aload_n dX4_add_19 rfl ?_
    obtain ⟨a20, ea20, hz⟩ := vnn_e hq
    clear hq
    subst ea20
    have hq := hz
    clear hz
    show mv_rq l G mX4_add (d + 1) 20 [some (.ref u0), some (.ref u1)] [.ref u1, .ref a20] h _
    obtain ⟨fs20, h20, f20, b20, l20, e20, hq⟩ := vpu_e hq
    refine q_putf (k := 3) (T := TX7) (C0 := RX7) (N := 4) (ci := 9) (ty := (.object "TreePaths$Segment")) tyX7 tyX7_ok nmX7 dX4_add_20 fl_RX4_27 rfl uin_RX7 (by decide) rfl rfl (by decide +kernel) rfl rfl b20 f20 l20 ?_
    rw [← e20]
    show mv_rq l G mX4_add (d + 1) 23 [some (.ref u0), some (.ref u1)] [] h20 _
    exact mv_weak (A := [some (.ref u0), some (.ref u1)]) (by repeat' constructor) hq
def w_X4_add_23 (l : Launch) (G : mv_G) (d : Nat) (u0 : Nat) (u1 : Nat) (h : mv_H) (Q : mv_O → mv_H → Prop) : Prop :=
  vpu G h u0 6 2 (.ref u1) fun h25 =>
  vgi h25 u0 6 3 fun x30 =>
  vpu G h25 u0 6 3 (.int (x30 + 1)) fun h35 =>
  vgi h35 u0 6 4 fun x40 =>
  vif (x40 = 0) (
    mv_rq l G mX4_add (d + 1) 57 [none, none] [.ref u0] h35 Q) (
    vob h35 u1 9 (
    mv_rq l G mX7_isSingle d 0 (mv_in [.ref u1] 1) [] h35 (vI (fun E h1 => Q (.inr E) h1) (fun x47 h47 =>
    vif (x47 = 0) (
      mv_rq l G mX4_add (d + 1) 57 [none, none] [.ref u0] h47 Q) (
      mv_rq l G mX4_add (d + 1) 58 [none, none] [.int 1, .ref u0] h47 Q)))))
theorem v_X4_add_23 {l : Launch} {G : mv_G} {d : Nat} {u0 : Nat} {u1 : Nat} {h : mv_H} {Q : mv_O → mv_H → Prop} (hG : mv_ok G) (hq : w_X4_add_23 l G d u0 u1 h Q) : mv_rq l G mX4_add (d + 1) 23 [some (.ref u0), some (.ref u1)] [] h Q := by
  unfold w_X4_add_23 at hq
  refine q_aload_n dX4_add_23 rfl ?_
  refine q_aload_n dX4_add_24 rfl ?_
  obtain ⟨fs25, h25, f25, b25, l25, e25, hq⟩ := vpu_e hq
  refine q_putf (k := 2) (T := TX4) (C0 := RX4) (N := 5) (ci := 6) (ty := (.object "TreePaths$Segment")) tyX4 tyX4_ok nmX4 dX4_add_25 fl_RX4_13 rfl uin_RX4 (by decide) rfl rfl (by decide +kernel) rfl rfl b25 f25 l25 ?_
  rw [← e25]
  show mv_rq l G mX4_add (d + 1) 28 [some (.ref u0), some (.ref u1)] [] h25 _
  refine q_aload_n dX4_add_28 rfl ?_
  refine q_dup dX4_add_29 rfl ?_
  obtain ⟨fs30, x30, f30, g30, hq⟩ := vgi_e hq
  refine q_getf (k := 3) (T := TX4) (C0 := RX4) (N := 5) (ci := 6) dX4_add_30 fl_RX4_16 rfl uin_RX4 (by decide) rfl f30 g30 ?_
  refine q_iconst (v := 1) dX4_add_33 (by decide) ?_
  refine q_iadd dX4_add_34 ?_
  obtain ⟨fs35, h35, f35, b35, l35, e35, hq⟩ := vpu_e hq
  refine q_putf (k := 3) (T := TX4) (C0 := RX4) (N := 5) (ci := 6) (ty := .int) tyX4 tyX4_ok nmX4 dX4_add_35 fl_RX4_16 rfl uin_RX4 (by decide) rfl rfl (by decide +kernel) rfl rfl b35 f35 l35 ?_
  rw [← e35]
  show mv_rq l G mX4_add (d + 1) 38 [some (.ref u0), some (.ref u1)] [] h35 _
  refine q_aload_n dX4_add_38 rfl ?_
  refine q_aload_n dX4_add_39 rfl ?_
  obtain ⟨fs40, x40, f40, g40, hq⟩ := vgi_e hq
  refine q_getf (k := 4) (T := TX4) (C0 := RX4) (N := 5) (ci := 6) dX4_add_40 fl_RX4_20 rfl uin_RX4 (by decide) rfl f40 g40 ?_
  refine q_if_eq (tgt := 57) dX4_add_43 (by decide) (fun c43 => ?_) (fun c43 => ?_)
  ·
    have hq := vif_t hq c43
    exact mv_weak (A := [none, none]) (by repeat' constructor) hq
  ·
    have hq := vif_f hq c43
    refine q_aload_n dX4_add_46 rfl ?_
    obtain ⟨⟨fs47, f47⟩, hq⟩ := vob_e hq
    refine q_cV (Y := mX7_isSingle) (As := []) (st := [.ref u0]) (b := u1) (ci := 9) vc_X7_isSingle dX4_add_47 ml_RX4_32 rfl f47 rfl (Nat.le_of_ble_eq_true rfl) rfl (Nat.le_of_ble_eq_true rfl) hq (fun v h1 hq1 => ?_) (fun E h1 hq1 => ?_)
    rotate_left
    ·
      rcases hq1 with hq1 | ⟨E1, e1, hq1⟩
      · obtain ⟨_, z, _⟩ := hq1; exact nomatch z
      · obtain rfl := Sum.inr.inj e1; exact q_xout (fun z hz => nomatch hz) hq1
    rcases hq1 with hq1 | ⟨E1, e1, hq1⟩
    rotate_left
    · exact nomatch e1
    obtain ⟨x47, hv, hq⟩ := hq1
    obtain rfl := Sum.inl.inj hv
    clear hv
    obtain ⟨h47, eh47⟩ : ∃ z, z = h1 := ⟨_, rfl⟩
    rw [← eh47] at hq ⊢
    clear eh47
    show mv_rq l G mX4_add (d + 1) 50 [some (.ref u0), some (.ref u1)] [.int x47, .ref u0] h47 _
    refine q_if_eq (tgt := 57) dX4_add_50 (by decide) (fun c50 => ?_) (fun c50 => ?_)
    ·
      have hq := vif_t hq c50
      exact mv_weak (A := [none, none]) (by repeat' constructor) hq
    ·
      have hq := vif_f hq c50
      refine q_iconst (v := 1) dX4_add_53 (by decide) ?_
      refine q_goto (tgt := 58) dX4_add_54 (by decide) ?_
      exact mv_weak (A := [none, none]) (by repeat' constructor) hq
def w_X4_add_57 (l : Launch) (G : mv_G) (d : Nat) (w0 : Nat) (h : mv_H) (Q : mv_O → mv_H → Prop) : Prop :=
  mv_rq l G mX4_add (d + 1) 58 [none, none] [.int 0, .ref w0] h Q
theorem v_X4_add_57 {l : Launch} {G : mv_G} {d : Nat} {w0 : Nat} {h : mv_H} {Q : mv_O → mv_H → Prop} (hG : mv_ok G) (hq : w_X4_add_57 l G d w0 h Q) : mv_rq l G mX4_add (d + 1) 57 [none, none] [.ref w0] h Q := by
  unfold w_X4_add_57 at hq
  refine q_iconst (v := 0) dX4_add_57 (by decide) ?_
  exact mv_weak (A := [none, none]) (by repeat' constructor) hq
def w_X4_add_58 (l : Launch) (G : mv_G) (d : Nat) (w0 : Int32) (w1 : Nat) (h : mv_H) (Q : mv_O → mv_H → Prop) : Prop :=
  narrow .boolean (.int w0) = .int w0 ∧ fits .boolean (.int w0) = true ∧
  vpu G h w1 6 4 (.int w0) fun h58 =>
  Q (.inl none) h58
theorem v_X4_add_58 {l : Launch} {G : mv_G} {d : Nat} {w0 : Int32} {w1 : Nat} {h : mv_H} {Q : mv_O → mv_H → Prop} (hG : mv_ok G) (hq : w_X4_add_58 l G d w0 w1 h Q) : mv_rq l G mX4_add (d + 1) 58 [none, none] [.int w0, .ref w1] h Q := by
  unfold w_X4_add_58 at hq
  obtain ⟨nr58, ft58, hq⟩ := hq
  obtain ⟨fs58, h58, f58, b58, l58, e58, hq⟩ := vpu_e hq
  refine q_putf (k := 4) (T := TX4) (C0 := RX4) (N := 5) (ci := 6) (ty := .boolean) tyX4 tyX4_ok nmX4 dX4_add_58 fl_RX4_20 rfl uin_RX4 (by decide) rfl rfl (by decide +kernel) nr58 ft58 b58 f58 l58 ?_
  rw [← e58]
  show mv_rq l G mX4_add (d + 1) 61 [none, none] [] h58 _
  exact q_vret dX4_add_61 rfl hq
def w_X7_init (l : Launch) (G : mv_G) (d : Nat) (u0 : Nat) (u1 : Int32) (h : mv_H) (Q : mv_O → mv_H → Prop) : Prop :=
  vpu G h u0 9 1 (.null) fun h6 =>
  vpu G h6 u0 9 2 (.null) fun h11 =>
  vpu G h11 u0 9 3 (.null) fun h16 =>
  narrow .boolean (.int u1) = .int u1 ∧ fits .boolean (.int u1) = true ∧
  vpu G h16 u0 9 0 (.int u1) fun h21 =>
  Q (.inl none) h21
theorem v_X7_init {l : Launch} {G : mv_G} {d : Nat} {u0 : Nat} {u1 : Int32} {h : mv_H} {Q : mv_O → mv_H → Prop} (hG : mv_ok G) (hq : w_X7_init l G d u0 u1 h Q) : mv_rq l G mX7_init (d + 1) 0 (mv_in [.ref u0, .int u1] 2) [] h Q := by
  unfold w_X7_init at hq
  show mv_rq l G mX7_init (d + 1) 0 [some (.ref u0), some (.int u1)] [] h _
  refine q_aload_n dX7_init_0 rfl ?_
  refine q_objI dX7_init_1 ml_RX7_1 obj_in obj_co rfl (Nat.le_of_ble_eq_true rfl) ?_
  refine q_aload_n dX7_init_4 rfl ?_
  refine q_null dX7_init_5 ?_
  obtain ⟨fs6, h6, f6, b6, l6, e6, hq⟩ := vpu_e hq
  refine q_putf (k := 1) (T := TX7) (C0 := RX7) (N := 4) (ci := 9) (ty := (.object "TreePaths$Selector")) tyX7 tyX7_ok nmX7 dX7_init_6 fl_RX7_7 rfl uin_RX7 (by decide) rfl rfl (by decide +kernel) rfl rfl b6 f6 l6 ?_
  rw [← e6]
  show mv_rq l G mX7_init (d + 1) 9 [some (.ref u0), some (.int u1)] [] h6 _
  refine q_aload_n dX7_init_9 rfl ?_
  refine q_null dX7_init_10 ?_
  obtain ⟨fs11, h11, f11, b11, l11, e11, hq⟩ := vpu_e hq
  refine q_putf (k := 2) (T := TX7) (C0 := RX7) (N := 4) (ci := 9) (ty := (.object "TreePaths$Selector")) tyX7 tyX7_ok nmX7 dX7_init_11 fl_RX7_13 rfl uin_RX7 (by decide) rfl rfl (by decide +kernel) rfl rfl b11 f11 l11 ?_
  rw [← e11]
  show mv_rq l G mX7_init (d + 1) 14 [some (.ref u0), some (.int u1)] [] h11 _
  refine q_aload_n dX7_init_14 rfl ?_
  refine q_null dX7_init_15 ?_
  obtain ⟨fs16, h16, f16, b16, l16, e16, hq⟩ := vpu_e hq
  refine q_putf (k := 3) (T := TX7) (C0 := RX7) (N := 4) (ci := 9) (ty := (.object "TreePaths$Segment")) tyX7 tyX7_ok nmX7 dX7_init_16 fl_RX7_16 rfl uin_RX7 (by decide) rfl rfl (by decide +kernel) rfl rfl b16 f16 l16 ?_
  rw [← e16]
  show mv_rq l G mX7_init (d + 1) 19 [some (.ref u0), some (.int u1)] [] h16 _
  refine q_aload_n dX7_init_19 rfl ?_
  refine q_iload_n dX7_init_20 rfl ?_
  obtain ⟨nr21, ft21, hq⟩ := hq
  obtain ⟨fs21, h21, f21, b21, l21, e21, hq⟩ := vpu_e hq
  refine q_putF (k := 0) (T := TX7) (C0 := RX7) (N := 4) (ci := 9) (ty := .boolean) tyX7 tyX7_ok nmX7 dX7_init_21 fl_RX7_20 rfl uin_RX7 (by decide) rfl rfl rfl rfl (by decide +kernel) nr21 ft21 b21 f21 l21 ?_
  rw [← e21]
  show mv_rq l G mX7_init (d + 1) 24 [some (.ref u0), some (.int u1)] [] h21 _
  exact q_vret dX7_init_24 rfl hq
def w_X7_add (l : Launch) (G : mv_G) (d : Nat) (u0 : Nat) (u1 : Nat) (h : mv_H) (Q : mv_O → mv_H → Prop) : Prop :=
  vgr h u0 9 2 fun x1 =>
  vnl x1 (
    vpu G h u0 9 1 (.ref u1) fun h9 =>
    mv_rq l G mX7_add d 23 [some (.ref u0), some (.ref u1)] [] h9 Q) (fun a4 =>
    vgr h u0 9 2 fun x16 =>
    vnn x16 fun a20 =>
    vpu G h a20 10 8 (.ref u1) fun h20 =>
    mv_rq l G mX7_add d 23 [some (.ref u0), some (.ref u1)] [] h20 Q)
theorem v_X7_add {l : Launch} {G : mv_G} {d : Nat} {u0 : Nat} {u1 : Nat} {h : mv_H} {Q : mv_O → mv_H → Prop} (hG : mv_ok G) (hq : w_X7_add l G d u0 u1 h Q) : mv_rq l G mX7_add d 0 (mv_in [.ref u0, .ref u1] 2) [] h Q := by
  unfold w_X7_add at hq
  show mv_rq l G mX7_add d 0 [some (.ref u0), some (.ref u1)] [] h _
  refine q_aload_n dX7_add_0 rfl ?_
  obtain ⟨fs1, x1, f1, g1, hq⟩ := vgr_e hq
  refine q_getf (k := 2) (T := TX7) (C0 := RX7) (N := 4) (ci := 9) dX7_add_1 fl_RX7_13 rfl uin_RX7 (by decide) rfl f1 g1 ?_
  refine q_ifnonnullV (tgt := 15) dX7_add_4 (by decide) (fun c4 => ?_) (fun a4 c4 => ?_)
  ·
    have hz := vnl_n hq c4
    clear hq
    subst c4
    have hq := hz
    clear hz
    show mv_rq l G mX7_add d 7 [some (.ref u0), some (.ref u1)] [] h _
    refine q_aload_n dX7_add_7 rfl ?_
    refine q_aload_n dX7_add_8 rfl ?_
    obtain ⟨fs9, h9, f9, b9, l9, e9, hq⟩ := vpu_e hq
    refine q_putf (k := 1) (T := TX7) (C0 := RX7) (N := 4) (ci := 9) (ty := (.object "TreePaths$Selector")) tyX7 tyX7_ok nmX7 dX7_add_9 fl_RX7_7 rfl uin_RX7 (by decide) rfl rfl (by decide +kernel) rfl rfl b9 f9 l9 ?_
    rw [← e9]
    show mv_rq l G mX7_add d 12 [some (.ref u0), some (.ref u1)] [] h9 _
    refine q_goto (tgt := 23) dX7_add_12 (by decide) ?_
    exact mv_weak (A := [some (.ref u0), some (.ref u1)]) (by repeat' constructor) hq
  ·
    have hz := vnl_s hq c4
    clear hq
    subst c4
    have hq := hz
    clear hz
    show mv_rq l G mX7_add d 15 [some (.ref u0), some (.ref u1)] [] h _
    refine q_aload_n dX7_add_15 rfl ?_
    obtain ⟨fs16, x16, f16, g16, hq⟩ := vgr_e hq
    refine q_getf (k := 2) (T := TX7) (C0 := RX7) (N := 4) (ci := 9) dX7_add_16 fl_RX7_13 rfl uin_RX7 (by decide) rfl f16 g16 ?_
    refine q_aload_n dX7_add_19 rfl ?_
    obtain ⟨a20, ea20, hz⟩ := vnn_e hq
    clear hq
    subst ea20
    have hq := hz
    clear hz
    show mv_rq l G mX7_add d 20 [some (.ref u0), some (.ref u1)] [.ref u1, .ref a20] h _
    obtain ⟨fs20, h20, f20, b20, l20, e20, hq⟩ := vpu_e hq
    refine q_putf (k := 8) (T := TX8) (C0 := RX8) (N := 9) (ci := 10) (ty := (.object "TreePaths$Selector")) tyX8 tyX8_ok nmX8 dX7_add_20 fl_RX7_24 rfl uin_RX8 (by decide) rfl rfl (by decide +kernel) rfl rfl b20 f20 l20 ?_
    rw [← e20]
    show mv_rq l G mX7_add d 23 [some (.ref u0), some (.ref u1)] [] h20 _
    exact mv_weak (A := [some (.ref u0), some (.ref u1)]) (by repeat' constructor) hq
def w_X7_add_23 (l : Launch) (G : mv_G) (d : Nat) (u0 : Nat) (u1 : Nat) (h : mv_H) (Q : mv_O → mv_H → Prop) : Prop :=
  vpu G h u0 9 2 (.ref u1) fun h25 =>
  Q (.inl none) h25
theorem v_X7_add_23 {l : Launch} {G : mv_G} {d : Nat} {u0 : Nat} {u1 : Nat} {h : mv_H} {Q : mv_O → mv_H → Prop} (hG : mv_ok G) (hq : w_X7_add_23 l G d u0 u1 h Q) : mv_rq l G mX7_add d 23 [some (.ref u0), some (.ref u1)] [] h Q := by
  unfold w_X7_add_23 at hq
  refine q_aload_n dX7_add_23 rfl ?_
  refine q_aload_n dX7_add_24 rfl ?_
  obtain ⟨fs25, h25, f25, b25, l25, e25, hq⟩ := vpu_e hq
  refine q_putf (k := 2) (T := TX7) (C0 := RX7) (N := 4) (ci := 9) (ty := (.object "TreePaths$Selector")) tyX7 tyX7_ok nmX7 dX7_add_25 fl_RX7_13 rfl uin_RX7 (by decide) rfl rfl (by decide +kernel) rfl rfl b25 f25 l25 ?_
  rw [← e25]
  show mv_rq l G mX7_add d 28 [some (.ref u0), some (.ref u1)] [] h25 _
  exact q_vret dX7_add_28 rfl hq
def w_X7_isSingle (l : Launch) (G : mv_G) (d : Nat) (u0 : Nat) (h : mv_H) (Q : mv_O → mv_H → Prop) : Prop :=
  vgi h u0 9 0 fun x1 =>
  vif (x1 = 0) (
    vgr h u0 9 1 fun x8 =>
    vnl x8 (
      Q (.inl (some (.int 0))) h) (fun a11 =>
      vgr h u0 9 1 fun x15 =>
      vgr h u0 9 2 fun x19 =>
      vif (x15 = x19) (
        vgr h u0 9 1 fun x26 =>
        vnn x26 fun a29 =>
        vgi h a29 10 0 fun x29 =>
        vif (x29 = 0) (
          Q (.inl (some (.int 1))) h) (
          vgr h u0 9 1 fun x36 =>
          vnn x36 fun a39 =>
          vgi h a39 10 0 fun x39 =>
          vif (x39 = 2) (
            Q (.inl (some (.int 1))) h) (
            Q (.inl (some (.int 0))) h))) (
        Q (.inl (some (.int 0))) h))) (
    Q (.inl (some (.int 0))) h)
theorem v_X7_isSingle {l : Launch} {G : mv_G} {d : Nat} {u0 : Nat} {h : mv_H} {Q : mv_O → mv_H → Prop} (hG : mv_ok G) (hq : w_X7_isSingle l G d u0 h Q) : mv_rq l G mX7_isSingle d 0 (mv_in [.ref u0] 1) [] h Q := by
  unfold w_X7_isSingle at hq
  show mv_rq l G mX7_isSingle d 0 [some (.ref u0)] [] h _
  refine q_aload_n dX7_isSingle_0 rfl ?_
  obtain ⟨fs1, x1, f1, g1, hq⟩ := vgi_e hq
  refine q_getf (k := 0) (T := TX7) (C0 := RX7) (N := 4) (ci := 9) dX7_isSingle_1 fl_RX7_20 rfl uin_RX7 (by decide) rfl f1 g1 ?_
  refine q_if_ne (tgt := 50) dX7_isSingle_4 (by decide) (fun c4 => ?_) (fun c4 => ?_)
  ·
    have hq := vif_f hq c4
    refine q_iconst (v := 0) dX7_isSingle_50 (by decide) ?_
    exact q_iret (ty := .boolean) dX7_isSingle_51 rfl rfl hq
  ·
    have hq := vif_t hq c4
    refine q_aload_n dX7_isSingle_7 rfl ?_
    obtain ⟨fs8, x8, f8, g8, hq⟩ := vgr_e hq
    refine q_getf (k := 1) (T := TX7) (C0 := RX7) (N := 4) (ci := 9) dX7_isSingle_8 fl_RX7_7 rfl uin_RX7 (by decide) rfl f8 g8 ?_
    refine q_ifnullV (tgt := 50) dX7_isSingle_11 (by decide) (fun c11 => ?_) (fun a11 c11 => ?_)
    ·
      have hz := vnl_n hq c11
      clear hq
      subst c11
      have hq := hz
      clear hz
      show mv_rq l G mX7_isSingle d 50 [some (.ref u0)] [] h _
      refine q_iconst (v := 0) dX7_isSingle_50 (by decide) ?_
      exact q_iret (ty := .boolean) dX7_isSingle_51 rfl rfl hq
    ·
      have hz := vnl_s hq c11
      clear hq
      subst c11
      have hq := hz
      clear hz
      show mv_rq l G mX7_isSingle d 14 [some (.ref u0)] [] h _
      refine q_aload_n dX7_isSingle_14 rfl ?_
      obtain ⟨fs15, x15, f15, g15, hq⟩ := vgr_e hq
      refine q_getf (k := 1) (T := TX7) (C0 := RX7) (N := 4) (ci := 9) dX7_isSingle_15 fl_RX7_7 rfl uin_RX7 (by decide) rfl f15 g15 ?_
      refine q_aload_n dX7_isSingle_18 rfl ?_
      obtain ⟨fs19, x19, f19, g19, hq⟩ := vgr_e hq
      refine q_getf (k := 2) (T := TX7) (C0 := RX7) (N := 4) (ci := 9) dX7_isSingle_19 fl_RX7_13 rfl uin_RX7 (by decide) rfl f19 g19 ?_
      refine q_acmp_ne (rx := x15) (ry := x19) (tgt := 50) dX7_isSingle_22 (by decide) (fun c22 => ?_) (fun c22 => ?_)
      ·
        have hq := vif_f hq c22
        refine q_iconst (v := 0) dX7_isSingle_50 (by decide) ?_
        exact q_iret (ty := .boolean) dX7_isSingle_51 rfl rfl hq
      ·
        have hq := vif_t hq c22
        refine q_aload_n dX7_isSingle_25 rfl ?_
        obtain ⟨fs26, x26, f26, g26, hq⟩ := vgr_e hq
        refine q_getf (k := 1) (T := TX7) (C0 := RX7) (N := 4) (ci := 9) dX7_isSingle_26 fl_RX7_7 rfl uin_RX7 (by decide) rfl f26 g26 ?_
        obtain ⟨a29, ea29, hz⟩ := vnn_e hq
        clear hq
        subst ea29
        have hq := hz
        clear hz
        show mv_rq l G mX7_isSingle d 29 [some (.ref u0)] [.ref a29] h _
        obtain ⟨fs29, x29, f29, g29, hq⟩ := vgi_e hq
        refine q_getf (k := 0) (T := TX8) (C0 := RX8) (N := 9) (ci := 10) dX7_isSingle_29 fl_RX7_28 rfl uin_RX8 (by decide) rfl f29 g29 ?_
        refine q_if_eq (tgt := 46) dX7_isSingle_32 (by decide) (fun c32 => ?_) (fun c32 => ?_)
        ·
          have hq := vif_t hq c32
          refine q_iconst (v := 1) dX7_isSingle_46 (by decide) ?_
          refine q_goto (tgt := 51) dX7_isSingle_47 (by decide) ?_
          exact q_iret (ty := .boolean) dX7_isSingle_51 rfl rfl hq
        ·
          have hq := vif_f hq c32
          refine q_aload_n dX7_isSingle_35 rfl ?_
          obtain ⟨fs36, x36, f36, g36, hq⟩ := vgr_e hq
          refine q_getf (k := 1) (T := TX7) (C0 := RX7) (N := 4) (ci := 9) dX7_isSingle_36 fl_RX7_7 rfl uin_RX7 (by decide) rfl f36 g36 ?_
          obtain ⟨a39, ea39, hz⟩ := vnn_e hq
          clear hq
          subst ea39
          have hq := hz
          clear hz
          show mv_rq l G mX7_isSingle d 39 [some (.ref u0)] [.ref a39] h _
          obtain ⟨fs39, x39, f39, g39, hq⟩ := vgi_e hq
          refine q_getf (k := 0) (T := TX8) (C0 := RX8) (N := 9) (ci := 10) dX7_isSingle_39 fl_RX7_28 rfl uin_RX8 (by decide) rfl f39 g39 ?_
          refine q_iconst (v := 2) dX7_isSingle_42 (by decide) ?_
          refine q_icmp_ne (tgt := 50) dX7_isSingle_43 (by decide) (fun c43 => ?_) (fun c43 => ?_)
          ·
            have hq := vif_f hq c43
            refine q_iconst (v := 0) dX7_isSingle_50 (by decide) ?_
            exact q_iret (ty := .boolean) dX7_isSingle_51 rfl rfl hq
          ·
            have hq := vif_t hq c43
            refine q_iconst (v := 1) dX7_isSingle_46 (by decide) ?_
            refine q_goto (tgt := 51) dX7_isSingle_47 (by decide) ?_
            exact q_iret (ty := .boolean) dX7_isSingle_51 rfl rfl hq
def w_X8_init (l : Launch) (G : mv_G) (d : Nat) (u0 : Nat) (u1 : Int32) (h : mv_H) (Q : mv_O → mv_H → Prop) : Prop :=
  vst G RX8 7 "" fun a5 =>
  vpu G h u0 10 1 (.ref a5) fun h7 =>
  vpu G h7 u0 10 2 (.int 0) fun h12 =>
  vpu G h12 u0 10 3 (.int 0) fun h17 =>
  vpu G h17 u0 10 4 (.int 1) fun h22 =>
  vpu G h22 u0 10 5 (.int 0) fun h27 =>
  vpu G h27 u0 10 6 (.int 0) fun h32 =>
  vpu G h32 u0 10 7 (.null) fun h37 =>
  vpu G h37 u0 10 8 (.null) fun h42 =>
  vpu G h42 u0 10 0 (.int u1) fun h47 =>
  Q (.inl none) h47
theorem v_X8_init {l : Launch} {G : mv_G} {d : Nat} {u0 : Nat} {u1 : Int32} {h : mv_H} {Q : mv_O → mv_H → Prop} (hG : mv_ok G) (hq : w_X8_init l G d u0 u1 h Q) : mv_rq l G mX8_init (d + 1) 0 (mv_in [.ref u0, .int u1] 2) [] h Q := by
  unfold w_X8_init at hq
  show mv_rq l G mX8_init (d + 1) 0 [some (.ref u0), some (.int u1)] [] h _
  refine q_aload_n dX8_init_0 rfl ?_
  refine q_objI dX8_init_1 ml_RX8_1 obj_in obj_co rfl (Nat.le_of_ble_eq_true rfl) ?_
  refine q_aload_n dX8_init_4 rfl ?_
  obtain ⟨a5, ea5, hq⟩ := vst_e hq
  refine q_ldcS dX8_init_5 ea5 ?_
  obtain ⟨fs7, h7, f7, b7, l7, e7, hq⟩ := vpu_e hq
  refine q_putf (k := 1) (T := TX8) (C0 := RX8) (N := 9) (ci := 10) (ty := (.object "java/lang/String")) tyX8 tyX8_ok nmX8 dX8_init_7 fl_RX8_9 rfl uin_RX8 (by decide) rfl rfl (by decide +kernel) rfl rfl b7 f7 l7 ?_
  rw [← e7]
  show mv_rq l G mX8_init (d + 1) 10 [some (.ref u0), some (.int u1)] [] h7 _
  refine q_aload_n dX8_init_10 rfl ?_
  refine q_iconst (v := 0) dX8_init_11 (by decide) ?_
  obtain ⟨fs12, h12, f12, b12, l12, e12, hq⟩ := vpu_e hq
  refine q_putf (k := 2) (T := TX8) (C0 := RX8) (N := 9) (ci := 10) (ty := .int) tyX8 tyX8_ok nmX8 dX8_init_12 fl_RX8_15 rfl uin_RX8 (by decide) rfl rfl (by decide +kernel) rfl rfl b12 f12 l12 ?_
  rw [← e12]
  show mv_rq l G mX8_init (d + 1) 15 [some (.ref u0), some (.int u1)] [] h12 _
  refine q_aload_n dX8_init_15 rfl ?_
  refine q_iconst (v := 0) dX8_init_16 (by decide) ?_
  obtain ⟨fs17, h17, f17, b17, l17, e17, hq⟩ := vpu_e hq
  refine q_putf (k := 3) (T := TX8) (C0 := RX8) (N := 9) (ci := 10) (ty := .int) tyX8 tyX8_ok nmX8 dX8_init_17 fl_RX8_19 rfl uin_RX8 (by decide) rfl rfl (by decide +kernel) rfl rfl b17 f17 l17 ?_
  rw [← e17]
  show mv_rq l G mX8_init (d + 1) 20 [some (.ref u0), some (.int u1)] [] h17 _
  refine q_aload_n dX8_init_20 rfl ?_
  refine q_iconst (v := 1) dX8_init_21 (by decide) ?_
  obtain ⟨fs22, h22, f22, b22, l22, e22, hq⟩ := vpu_e hq
  refine q_putf (k := 4) (T := TX8) (C0 := RX8) (N := 9) (ci := 10) (ty := .int) tyX8 tyX8_ok nmX8 dX8_init_22 fl_RX8_22 rfl uin_RX8 (by decide) rfl rfl (by decide +kernel) rfl rfl b22 f22 l22 ?_
  rw [← e22]
  show mv_rq l G mX8_init (d + 1) 25 [some (.ref u0), some (.int u1)] [] h22 _
  refine q_aload_n dX8_init_25 rfl ?_
  refine q_iconst (v := 0) dX8_init_26 (by decide) ?_
  obtain ⟨fs27, h27, f27, b27, l27, e27, hq⟩ := vpu_e hq
  refine q_putf (k := 5) (T := TX8) (C0 := RX8) (N := 9) (ci := 10) (ty := .boolean) tyX8 tyX8_ok nmX8 dX8_init_27 fl_RX8_25 rfl uin_RX8 (by decide) rfl rfl (by decide +kernel) rfl rfl b27 f27 l27 ?_
  rw [← e27]
  show mv_rq l G mX8_init (d + 1) 30 [some (.ref u0), some (.int u1)] [] h27 _
  refine q_aload_n dX8_init_30 rfl ?_
  refine q_iconst (v := 0) dX8_init_31 (by decide) ?_
  obtain ⟨fs32, h32, f32, b32, l32, e32, hq⟩ := vpu_e hq
  refine q_putf (k := 6) (T := TX8) (C0 := RX8) (N := 9) (ci := 10) (ty := .boolean) tyX8 tyX8_ok nmX8 dX8_init_32 fl_RX8_29 rfl uin_RX8 (by decide) rfl rfl (by decide +kernel) rfl rfl b32 f32 l32 ?_
  rw [← e32]
  show mv_rq l G mX8_init (d + 1) 35 [some (.ref u0), some (.int u1)] [] h32 _
  refine q_aload_n dX8_init_35 rfl ?_
  refine q_null dX8_init_36 ?_
  obtain ⟨fs37, h37, f37, b37, l37, e37, hq⟩ := vpu_e hq
  refine q_putf (k := 7) (T := TX8) (C0 := RX8) (N := 9) (ci := 10) (ty := (.object "TreePaths$Test")) tyX8 tyX8_ok nmX8 dX8_init_37 fl_RX8_32 rfl uin_RX8 (by decide) rfl rfl (by decide +kernel) rfl rfl b37 f37 l37 ?_
  rw [← e37]
  show mv_rq l G mX8_init (d + 1) 40 [some (.ref u0), some (.int u1)] [] h37 _
  refine q_aload_n dX8_init_40 rfl ?_
  refine q_null dX8_init_41 ?_
  obtain ⟨fs42, h42, f42, b42, l42, e42, hq⟩ := vpu_e hq
  refine q_putf (k := 8) (T := TX8) (C0 := RX8) (N := 9) (ci := 10) (ty := (.object "TreePaths$Selector")) tyX8 tyX8_ok nmX8 dX8_init_42 fl_RX8_36 rfl uin_RX8 (by decide) rfl rfl (by decide +kernel) rfl rfl b42 f42 l42 ?_
  rw [← e42]
  show mv_rq l G mX8_init (d + 1) 45 [some (.ref u0), some (.int u1)] [] h42 _
  refine q_aload_n dX8_init_45 rfl ?_
  refine q_iload_n dX8_init_46 rfl ?_
  obtain ⟨fs47, h47, f47, b47, l47, e47, hq⟩ := vpu_e hq
  refine q_putF (k := 0) (T := TX8) (C0 := RX8) (N := 9) (ci := 10) (ty := .int) tyX8 tyX8_ok nmX8 dX8_init_47 fl_RX8_40 rfl uin_RX8 (by decide) rfl rfl rfl rfl (by decide +kernel) rfl rfl b47 f47 l47 ?_
  rw [← e47]
  show mv_rq l G mX8_init (d + 1) 50 [some (.ref u0), some (.int u1)] [] h47 _
  exact q_vret dX8_init_50 rfl hq
def w_X9_init (l : Launch) (G : mv_G) (d : Nat) (u0 : Nat) (u1 : Int32) (h : mv_H) (Q : mv_O → mv_H → Prop) : Prop :=
  vpu G h u0 11 1 (.null) fun h6 =>
  vpu G h6 u0 11 2 (.null) fun h11 =>
  vpu G h11 u0 11 3 (.null) fun h16 =>
  vpu G h16 u0 11 4 (.null) fun h21 =>
  vpu G h21 u0 11 5 (.null) fun h26 =>
  vpu G h26 u0 11 6 (.int 0) fun h31 =>
  vpu G h31 u0 11 7 (.null) fun h36 =>
  vpu G h36 u0 11 0 (.int u1) fun h41 =>
  Q (.inl none) h41
theorem v_X9_init {l : Launch} {G : mv_G} {d : Nat} {u0 : Nat} {u1 : Int32} {h : mv_H} {Q : mv_O → mv_H → Prop} (hG : mv_ok G) (hq : w_X9_init l G d u0 u1 h Q) : mv_rq l G mX9_init (d + 1) 0 (mv_in [.ref u0, .int u1] 2) [] h Q := by
  unfold w_X9_init at hq
  show mv_rq l G mX9_init (d + 1) 0 [some (.ref u0), some (.int u1)] [] h _
  refine q_aload_n dX9_init_0 rfl ?_
  refine q_objI dX9_init_1 ml_RX9_1 obj_in obj_co rfl (Nat.le_of_ble_eq_true rfl) ?_
  refine q_aload_n dX9_init_4 rfl ?_
  refine q_null dX9_init_5 ?_
  obtain ⟨fs6, h6, f6, b6, l6, e6, hq⟩ := vpu_e hq
  refine q_putf (k := 1) (T := TX9) (C0 := RX9) (N := 8) (ci := 11) (ty := (.object "TreePaths$Test")) tyX9 tyX9_ok nmX9 dX9_init_6 fl_RX9_7 rfl uin_RX9 (by decide) rfl rfl (by decide +kernel) rfl rfl b6 f6 l6 ?_
  rw [← e6]
  show mv_rq l G mX9_init (d + 1) 9 [some (.ref u0), some (.int u1)] [] h6 _
  refine q_aload_n dX9_init_9 rfl ?_
  refine q_null dX9_init_10 ?_
  obtain ⟨fs11, h11, f11, b11, l11, e11, hq⟩ := vpu_e hq
  refine q_putf (k := 2) (T := TX9) (C0 := RX9) (N := 8) (ci := 11) (ty := (.object "TreePaths$Test")) tyX9 tyX9_ok nmX9 dX9_init_11 fl_RX9_13 rfl uin_RX9 (by decide) rfl rfl (by decide +kernel) rfl rfl b11 f11 l11 ?_
  rw [← e11]
  show mv_rq l G mX9_init (d + 1) 14 [some (.ref u0), some (.int u1)] [] h11 _
  refine q_aload_n dX9_init_14 rfl ?_
  refine q_null dX9_init_15 ?_
  obtain ⟨fs16, h16, f16, b16, l16, e16, hq⟩ := vpu_e hq
  refine q_putf (k := 3) (T := TX9) (C0 := RX9) (N := 8) (ci := 11) (ty := (.object "TreePaths$Test")) tyX9 tyX9_ok nmX9 dX9_init_16 fl_RX9_16 rfl uin_RX9 (by decide) rfl rfl (by decide +kernel) rfl rfl b16 f16 l16 ?_
  rw [← e16]
  show mv_rq l G mX9_init (d + 1) 19 [some (.ref u0), some (.int u1)] [] h16 _
  refine q_aload_n dX9_init_19 rfl ?_
  refine q_null dX9_init_20 ?_
  obtain ⟨fs21, h21, f21, b21, l21, e21, hq⟩ := vpu_e hq
  refine q_putf (k := 4) (T := TX9) (C0 := RX9) (N := 8) (ci := 11) (ty := (.object "TreePaths$Path")) tyX9 tyX9_ok nmX9 dX9_init_21 fl_RX9_19 rfl uin_RX9 (by decide) rfl rfl (by decide +kernel) rfl rfl b21 f21 l21 ?_
  rw [← e21]
  show mv_rq l G mX9_init (d + 1) 24 [some (.ref u0), some (.int u1)] [] h21 _
  refine q_aload_n dX9_init_24 rfl ?_
  refine q_null dX9_init_25 ?_
  obtain ⟨fs26, h26, f26, b26, l26, e26, hq⟩ := vpu_e hq
  refine q_putf (k := 5) (T := TX9) (C0 := RX9) (N := 8) (ci := 11) (ty := (.object "TreePaths$Thing")) tyX9 tyX9_ok nmX9 dX9_init_26 fl_RX9_23 rfl uin_RX9 (by decide) rfl rfl (by decide +kernel) rfl rfl b26 f26 l26 ?_
  rw [← e26]
  show mv_rq l G mX9_init (d + 1) 29 [some (.ref u0), some (.int u1)] [] h26 _
  refine q_aload_n dX9_init_29 rfl ?_
  refine q_iconst (v := 0) dX9_init_30 (by decide) ?_
  obtain ⟨fs31, h31, f31, b31, l31, e31, hq⟩ := vpu_e hq
  refine q_putf (k := 6) (T := TX9) (C0 := RX9) (N := 8) (ci := 11) (ty := .int) tyX9 tyX9_ok nmX9 dX9_init_31 fl_RX9_27 rfl uin_RX9 (by decide) rfl rfl (by decide +kernel) rfl rfl b31 f31 l31 ?_
  rw [← e31]
  show mv_rq l G mX9_init (d + 1) 34 [some (.ref u0), some (.int u1)] [] h31 _
  refine q_aload_n dX9_init_34 rfl ?_
  refine q_null dX9_init_35 ?_
  obtain ⟨fs36, h36, f36, b36, l36, e36, hq⟩ := vpu_e hq
  refine q_putf (k := 7) (T := TX9) (C0 := RX9) (N := 8) (ci := 11) (ty := (.object "TreePaths$Thing")) tyX9 tyX9_ok nmX9 dX9_init_36 fl_RX9_31 rfl uin_RX9 (by decide) rfl rfl (by decide +kernel) rfl rfl b36 f36 l36 ?_
  rw [← e36]
  show mv_rq l G mX9_init (d + 1) 39 [some (.ref u0), some (.int u1)] [] h36 _
  refine q_aload_n dX9_init_39 rfl ?_
  refine q_iload_n dX9_init_40 rfl ?_
  obtain ⟨fs41, h41, f41, b41, l41, e41, hq⟩ := vpu_e hq
  refine q_putF (k := 0) (T := TX9) (C0 := RX9) (N := 8) (ci := 11) (ty := .int) tyX9 tyX9_ok nmX9 dX9_init_41 fl_RX9_34 rfl uin_RX9 (by decide) rfl rfl rfl rfl (by decide +kernel) rfl rfl b41 f41 l41 ?_
  rw [← e41]
  show mv_rq l G mX9_init (d + 1) 44 [some (.ref u0), some (.int u1)] [] h41 _
  exact q_vret dX9_init_44 rfl hq
def w_X9_add (l : Launch) (G : mv_G) (d : Nat) (u0 : Nat) (u1 : Nat) (h : mv_H) (Q : mv_O → mv_H → Prop) : Prop :=
  vgr h u0 11 2 fun x1 =>
  vnl x1 (
    vpu G h u0 11 1 (.ref u1) fun h9 =>
    mv_rq l G mX9_add d 23 [some (.ref u0), some (.ref u1)] [] h9 Q) (fun a4 =>
    vgr h u0 11 2 fun x16 =>
    vnn x16 fun a20 =>
    vpu G h a20 11 3 (.ref u1) fun h20 =>
    mv_rq l G mX9_add d 23 [some (.ref u0), some (.ref u1)] [] h20 Q)
theorem v_X9_add {l : Launch} {G : mv_G} {d : Nat} {u0 : Nat} {u1 : Nat} {h : mv_H} {Q : mv_O → mv_H → Prop} (hG : mv_ok G) (hq : w_X9_add l G d u0 u1 h Q) : mv_rq l G mX9_add d 0 (mv_in [.ref u0, .ref u1] 2) [] h Q := by
  unfold w_X9_add at hq
  show mv_rq l G mX9_add d 0 [some (.ref u0), some (.ref u1)] [] h _
  refine q_aload_n dX9_add_0 rfl ?_
  obtain ⟨fs1, x1, f1, g1, hq⟩ := vgr_e hq
  refine q_getf (k := 2) (T := TX9) (C0 := RX9) (N := 8) (ci := 11) dX9_add_1 fl_RX9_13 rfl uin_RX9 (by decide) rfl f1 g1 ?_
  refine q_ifnonnullV (tgt := 15) dX9_add_4 (by decide) (fun c4 => ?_) (fun a4 c4 => ?_)
  ·
    have hz := vnl_n hq c4
    clear hq
    subst c4
    have hq := hz
    clear hz
    show mv_rq l G mX9_add d 7 [some (.ref u0), some (.ref u1)] [] h _
    refine q_aload_n dX9_add_7 rfl ?_
    refine q_aload_n dX9_add_8 rfl ?_
    obtain ⟨fs9, h9, f9, b9, l9, e9, hq⟩ := vpu_e hq
    refine q_putf (k := 1) (T := TX9) (C0 := RX9) (N := 8) (ci := 11) (ty := (.object "TreePaths$Test")) tyX9 tyX9_ok nmX9 dX9_add_9 fl_RX9_7 rfl uin_RX9 (by decide) rfl rfl (by decide +kernel) rfl rfl b9 f9 l9 ?_
    rw [← e9]
    show mv_rq l G mX9_add d 12 [some (.ref u0), some (.ref u1)] [] h9 _
    refine q_goto (tgt := 23) dX9_add_12 (by decide) ?_
    exact mv_weak (A := [some (.ref u0), some (.ref u1)]) (by repeat' constructor) hq
  ·
    have hz := vnl_s hq c4
    clear hq
    subst c4
    have hq := hz
    clear hz
    show mv_rq l G mX9_add d 15 [some (.ref u0), some (.ref u1)] [] h _
    refine q_aload_n dX9_add_15 rfl ?_
    obtain ⟨fs16, x16, f16, g16, hq⟩ := vgr_e hq
    refine q_getf (k := 2) (T := TX9) (C0 := RX9) (N := 8) (ci := 11) dX9_add_16 fl_RX9_13 rfl uin_RX9 (by decide) rfl f16 g16 ?_
    refine q_aload_n dX9_add_19 rfl ?_
    obtain ⟨a20, ea20, hz⟩ := vnn_e hq
    clear hq
    subst ea20
    have hq := hz
    clear hz
    show mv_rq l G mX9_add d 20 [some (.ref u0), some (.ref u1)] [.ref u1, .ref a20] h _
    obtain ⟨fs20, h20, f20, b20, l20, e20, hq⟩ := vpu_e hq
    refine q_putf (k := 3) (T := TX9) (C0 := RX9) (N := 8) (ci := 11) (ty := (.object "TreePaths$Test")) tyX9 tyX9_ok nmX9 dX9_add_20 fl_RX9_16 rfl uin_RX9 (by decide) rfl rfl (by decide +kernel) rfl rfl b20 f20 l20 ?_
    rw [← e20]
    show mv_rq l G mX9_add d 23 [some (.ref u0), some (.ref u1)] [] h20 _
    exact mv_weak (A := [some (.ref u0), some (.ref u1)]) (by repeat' constructor) hq
def w_X9_add_23 (l : Launch) (G : mv_G) (d : Nat) (u0 : Nat) (u1 : Nat) (h : mv_H) (Q : mv_O → mv_H → Prop) : Prop :=
  vpu G h u0 11 2 (.ref u1) fun h25 =>
  Q (.inl none) h25
theorem v_X9_add_23 {l : Launch} {G : mv_G} {d : Nat} {u0 : Nat} {u1 : Nat} {h : mv_H} {Q : mv_O → mv_H → Prop} (hG : mv_ok G) (hq : w_X9_add_23 l G d u0 u1 h Q) : mv_rq l G mX9_add d 23 [some (.ref u0), some (.ref u1)] [] h Q := by
  unfold w_X9_add_23 at hq
  refine q_aload_n dX9_add_23 rfl ?_
  refine q_aload_n dX9_add_24 rfl ?_
  obtain ⟨fs25, h25, f25, b25, l25, e25, hq⟩ := vpu_e hq
  refine q_putf (k := 2) (T := TX9) (C0 := RX9) (N := 8) (ci := 11) (ty := (.object "TreePaths$Test")) tyX9 tyX9_ok nmX9 dX9_add_25 fl_RX9_13 rfl uin_RX9 (by decide) rfl rfl (by decide +kernel) rfl rfl b25 f25 l25 ?_
  rw [← e25]
  show mv_rq l G mX9_add d 28 [some (.ref u0), some (.ref u1)] [] h25 _
  exact q_vret dX9_add_28 rfl hq
def w_X10_init (l : Launch) (G : mv_G) (d : Nat) (u0 : Nat) (u1 : Int32) (h : mv_H) (Q : mv_O → mv_H → Prop) : Prop :=
  vpu G h u0 12 1 (.null) fun h6 =>
  vpu G h6 u0 12 2 (.null) fun h11 =>
  vnw h11 10 (.inr (13, [.int 0, .int 0, .null, .int 0, .null, .int 0, .int 0, .int 0, .int 0, .int 0])) fun a15 h15 =>
  mv_rq l G mX11_init d 0 (mv_in [.ref a15] 1) [] h15 (vU (fun E h1 => Q (.inr E) h1) (fun h19 =>
  vpu G h19 u0 12 3 (.ref a15) fun h22 =>
  vpu G h22 u0 12 0 (.int u1) fun h27 =>
  Q (.inl none) h27))
theorem v_X10_init {l : Launch} {G : mv_G} {d : Nat} {u0 : Nat} {u1 : Int32} {h : mv_H} {Q : mv_O → mv_H → Prop} (hG : mv_ok G) (hq : w_X10_init l G d u0 u1 h Q) : mv_rq l G mX10_init (d + 1) 0 (mv_in [.ref u0, .int u1] 2) [] h Q := by
  unfold w_X10_init at hq
  show mv_rq l G mX10_init (d + 1) 0 [some (.ref u0), some (.int u1)] [] h _
  refine q_aload_n dX10_init_0 rfl ?_
  refine q_objI dX10_init_1 ml_RX10_1 obj_in obj_co rfl (Nat.le_of_ble_eq_true rfl) ?_
  refine q_aload_n dX10_init_4 rfl ?_
  refine q_null dX10_init_5 ?_
  obtain ⟨fs6, h6, f6, b6, l6, e6, hq⟩ := vpu_e hq
  refine q_putf (k := 1) (T := TX10) (C0 := RX10) (N := 4) (ci := 12) (ty := (.object "TreePaths$Path")) tyX10 tyX10_ok nmX10 dX10_init_6 fl_RX10_7 rfl uin_RX10 (by decide) rfl rfl (by decide +kernel) rfl rfl b6 f6 l6 ?_
  rw [← e6]
  show mv_rq l G mX10_init (d + 1) 9 [some (.ref u0), some (.int u1)] [] h6 _
  refine q_aload_n dX10_init_9 rfl ?_
  refine q_null dX10_init_10 ?_
  obtain ⟨fs11, h11, f11, b11, l11, e11, hq⟩ := vpu_e hq
  refine q_putf (k := 2) (T := TX10) (C0 := RX10) (N := 4) (ci := 12) (ty := (.object "TreePaths$Thing")) tyX10 tyX10_ok nmX10 dX10_init_11 fl_RX10_13 rfl uin_RX10 (by decide) rfl rfl (by decide +kernel) rfl rfl b11 f11 l11 ?_
  rw [← e11]
  show mv_rq l G mX10_init (d + 1) 14 [some (.ref u0), some (.int u1)] [] h11 _
  refine q_aload_n dX10_init_14 rfl ?_
  obtain ⟨a15, h15, ea15, eh15, hq⟩ := vnw_e hq
  refine q_new (fs := [.int 0, .int 0, .null, .int 0, .null, .int 0, .int 0, .int 0, .int 0, .int 0]) (ci := 13) (T := TX11) (N := 10) tyX11 tyX11_ok dX10_init_15 cl_RX10_17 inst_RX11 init_RX11 uin_RX11 rfl (by decide) ?_
  rw [← eh15, ← ea15]
  show mv_rq l G mX10_init (d + 1) 18 [some (.ref u0), some (.int u1)] [.ref a15, .ref u0] h15 _
  refine q_dup dX10_init_18 rfl ?_
  refine q_cIN (Y := mX11_init) (As := []) (st := [.ref a15, .ref u0]) (b := a15) ic_X11_init dX10_init_19 mn_RX10_19 rfl (Nat.le_of_ble_eq_true rfl) rfl (Nat.le_of_ble_eq_true rfl) hq (fun v h1 hq1 => ?_) (fun E h1 hq1 => ?_)
  rotate_left
  ·
    rcases hq1 with hq1 | ⟨E1, e1, hq1⟩
    · exact nomatch hq1.1
    · obtain rfl := Sum.inr.inj e1; exact q_xout (fun z hz => nomatch hz) hq1
  rcases hq1 with hq1 | ⟨E1, e1, hq1⟩
  rotate_left
  · exact nomatch e1
  obtain ⟨hv, hq⟩ := hq1
  obtain rfl := Sum.inl.inj hv
  clear hv
  obtain ⟨h19, eh19⟩ : ∃ z, z = h1 := ⟨_, rfl⟩
  rw [← eh19] at hq ⊢
  clear eh19
  show mv_rq l G mX10_init (d + 1) 22 [some (.ref u0), some (.int u1)] [.ref a15, .ref u0] h19 _
  obtain ⟨fs22, h22, f22, b22, l22, e22, hq⟩ := vpu_e hq
  refine q_putF (k := 3) (T := TX10) (C0 := RX10) (N := 4) (ci := 12) (ty := (.object "TreePaths$Value")) tyX10 tyX10_ok nmX10 dX10_init_22 fl_RX10_20 rfl uin_RX10 (by decide) rfl rfl rfl rfl (by decide +kernel) rfl rfl b22 f22 l22 ?_
  rw [← e22]
  show mv_rq l G mX10_init (d + 1) 25 [some (.ref u0), some (.int u1)] [] h22 _
  refine q_aload_n dX10_init_25 rfl ?_
  refine q_iload_n dX10_init_26 rfl ?_
  obtain ⟨fs27, h27, f27, b27, l27, e27, hq⟩ := vpu_e hq
  refine q_putF (k := 0) (T := TX10) (C0 := RX10) (N := 4) (ci := 12) (ty := .int) tyX10 tyX10_ok nmX10 dX10_init_27 fl_RX10_24 rfl uin_RX10 (by decide) rfl rfl rfl rfl (by decide +kernel) rfl rfl b27 f27 l27 ?_
  rw [← e27]
  show mv_rq l G mX10_init (d + 1) 30 [some (.ref u0), some (.int u1)] [] h27 _
  exact q_vret dX10_init_30 rfl hq
def w_X11_init (l : Launch) (G : mv_G) (d : Nat) (u0 : Nat) (h : mv_H) (Q : mv_O → mv_H → Prop) : Prop :=
  vpu G h u0 13 0 (.int 0) fun h6 =>
  vpu G h6 u0 13 1 (.int 0) fun h11 =>
  vst G RX11 18 "" fun a15 =>
  vpu G h11 u0 13 2 (.ref a15) fun h17 =>
  vpu G h17 u0 13 3 (.int (-1)) fun h22 =>
  vst G RX11 18 "" fun a26 =>
  vpu G h22 u0 13 4 (.ref a26) fun h28 =>
  vpu G h28 u0 13 5 (.int (-1)) fun h33 =>
  vpu G h33 u0 13 6 (.int 0) fun h38 =>
  vpu G h38 u0 13 7 (.int 0) fun h43 =>
  vpu G h43 u0 13 8 (.int 0) fun h48 =>
  vpu G h48 u0 13 9 (.int 0) fun h53 =>
  Q (.inl none) h53
theorem v_X11_init {l : Launch} {G : mv_G} {d : Nat} {u0 : Nat} {h : mv_H} {Q : mv_O → mv_H → Prop} (hG : mv_ok G) (hq : w_X11_init l G d u0 h Q) : mv_rq l G mX11_init (d + 1) 0 (mv_in [.ref u0] 1) [] h Q := by
  unfold w_X11_init at hq
  show mv_rq l G mX11_init (d + 1) 0 [some (.ref u0)] [] h _
  refine q_aload_n dX11_init_0 rfl ?_
  refine q_objI dX11_init_1 ml_RX11_3 obj_in obj_co rfl (Nat.le_of_ble_eq_true rfl) ?_
  refine q_aload_n dX11_init_4 rfl ?_
  refine q_iconst (v := 0) dX11_init_5 (by decide) ?_
  obtain ⟨fs6, h6, f6, b6, l6, e6, hq⟩ := vpu_e hq
  refine q_putf (k := 0) (T := TX11) (C0 := RX11) (N := 10) (ci := 13) (ty := .int) tyX11 tyX11_ok nmX11 dX11_init_6 fl_RX11_9 rfl uin_RX11 (by decide) rfl rfl (by decide +kernel) rfl rfl b6 f6 l6 ?_
  rw [← e6]
  show mv_rq l G mX11_init (d + 1) 9 [some (.ref u0)] [] h6 _
  refine q_aload_n dX11_init_9 rfl ?_
  refine q_iconst (v := 0) dX11_init_10 (by decide) ?_
  obtain ⟨fs11, h11, f11, b11, l11, e11, hq⟩ := vpu_e hq
  refine q_putf (k := 1) (T := TX11) (C0 := RX11) (N := 10) (ci := 13) (ty := .int) tyX11 tyX11_ok nmX11 dX11_init_11 fl_RX11_15 rfl uin_RX11 (by decide) rfl rfl (by decide +kernel) rfl rfl b11 f11 l11 ?_
  rw [← e11]
  show mv_rq l G mX11_init (d + 1) 14 [some (.ref u0)] [] h11 _
  refine q_aload_n dX11_init_14 rfl ?_
  obtain ⟨a15, ea15, hq⟩ := vst_e hq
  refine q_ldcS dX11_init_15 ea15 ?_
  obtain ⟨fs17, h17, f17, b17, l17, e17, hq⟩ := vpu_e hq
  refine q_putf (k := 2) (T := TX11) (C0 := RX11) (N := 10) (ci := 13) (ty := (.object "java/lang/String")) tyX11 tyX11_ok nmX11 dX11_init_17 fl_RX11_20 rfl uin_RX11 (by decide) rfl rfl (by decide +kernel) rfl rfl b17 f17 l17 ?_
  rw [← e17]
  show mv_rq l G mX11_init (d + 1) 20 [some (.ref u0)] [] h17 _
  refine q_aload_n dX11_init_20 rfl ?_
  refine q_iconst (v := (-1)) dX11_init_21 (by decide) ?_
  obtain ⟨fs22, h22, f22, b22, l22, e22, hq⟩ := vpu_e hq
  refine q_putf (k := 3) (T := TX11) (C0 := RX11) (N := 10) (ci := 13) (ty := .int) tyX11 tyX11_ok nmX11 dX11_init_22 fl_RX11_24 rfl uin_RX11 (by decide) rfl rfl (by decide +kernel) rfl rfl b22 f22 l22 ?_
  rw [← e22]
  show mv_rq l G mX11_init (d + 1) 25 [some (.ref u0)] [] h22 _
  refine q_aload_n dX11_init_25 rfl ?_
  obtain ⟨a26, ea26, hq⟩ := vst_e hq
  refine q_ldcS dX11_init_26 ea26 ?_
  obtain ⟨fs28, h28, f28, b28, l28, e28, hq⟩ := vpu_e hq
  refine q_putf (k := 4) (T := TX11) (C0 := RX11) (N := 10) (ci := 13) (ty := (.object "java/lang/String")) tyX11 tyX11_ok nmX11 dX11_init_28 fl_RX11_27 rfl uin_RX11 (by decide) rfl rfl (by decide +kernel) rfl rfl b28 f28 l28 ?_
  rw [← e28]
  show mv_rq l G mX11_init (d + 1) 31 [some (.ref u0)] [] h28 _
  refine q_aload_n dX11_init_31 rfl ?_
  refine q_iconst (v := (-1)) dX11_init_32 (by decide) ?_
  obtain ⟨fs33, h33, f33, b33, l33, e33, hq⟩ := vpu_e hq
  refine q_putf (k := 5) (T := TX11) (C0 := RX11) (N := 10) (ci := 13) (ty := .int) tyX11 tyX11_ok nmX11 dX11_init_33 fl_RX11_30 rfl uin_RX11 (by decide) rfl rfl (by decide +kernel) rfl rfl b33 f33 l33 ?_
  rw [← e33]
  show mv_rq l G mX11_init (d + 1) 36 [some (.ref u0)] [] h33 _
  refine q_aload_n dX11_init_36 rfl ?_
  refine q_iconst (v := 0) dX11_init_37 (by decide) ?_
  obtain ⟨fs38, h38, f38, b38, l38, e38, hq⟩ := vpu_e hq
  refine q_putf (k := 6) (T := TX11) (C0 := RX11) (N := 10) (ci := 13) (ty := .int) tyX11 tyX11_ok nmX11 dX11_init_38 fl_RX11_33 rfl uin_RX11 (by decide) rfl rfl (by decide +kernel) rfl rfl b38 f38 l38 ?_
  rw [← e38]
  show mv_rq l G mX11_init (d + 1) 41 [some (.ref u0)] [] h38 _
  refine q_aload_n dX11_init_41 rfl ?_
  refine q_iconst (v := 0) dX11_init_42 (by decide) ?_
  obtain ⟨fs43, h43, f43, b43, l43, e43, hq⟩ := vpu_e hq
  refine q_putf (k := 7) (T := TX11) (C0 := RX11) (N := 10) (ci := 13) (ty := .int) tyX11 tyX11_ok nmX11 dX11_init_43 fl_RX11_36 rfl uin_RX11 (by decide) rfl rfl (by decide +kernel) rfl rfl b43 f43 l43 ?_
  rw [← e43]
  show mv_rq l G mX11_init (d + 1) 46 [some (.ref u0)] [] h43 _
  refine q_aload_n dX11_init_46 rfl ?_
  refine q_iconst (v := 0) dX11_init_47 (by decide) ?_
  obtain ⟨fs48, h48, f48, b48, l48, e48, hq⟩ := vpu_e hq
  refine q_putf (k := 8) (T := TX11) (C0 := RX11) (N := 10) (ci := 13) (ty := .int) tyX11 tyX11_ok nmX11 dX11_init_48 fl_RX11_39 rfl uin_RX11 (by decide) rfl rfl (by decide +kernel) rfl rfl b48 f48 l48 ?_
  rw [← e48]
  show mv_rq l G mX11_init (d + 1) 51 [some (.ref u0)] [] h48 _
  refine q_aload_n dX11_init_51 rfl ?_
  refine q_iconst (v := 0) dX11_init_52 (by decide) ?_
  obtain ⟨fs53, h53, f53, b53, l53, e53, hq⟩ := vpu_e hq
  refine q_putf (k := 9) (T := TX11) (C0 := RX11) (N := 10) (ci := 13) (ty := .int) tyX11 tyX11_ok nmX11 dX11_init_53 fl_RX11_42 rfl uin_RX11 (by decide) rfl rfl (by decide +kernel) rfl rfl b53 f53 l53 ?_
  rw [← e53]
  show mv_rq l G mX11_init (d + 1) 56 [some (.ref u0)] [] h53 _
  exact q_vret dX11_init_56 rfl hq
def w_X0_init (l : Launch) (G : mv_G) (d : Nat) (u0 : Nat) (h : mv_H) (Q : mv_O → mv_H → Prop) : Prop :=
  vst G RX0 9 "" fun a5 =>
  vpu G h u0 2 0 (.ref a5) fun h7 =>
  vpu G h7 u0 2 1 (.int 0) fun h12 =>
  vpu G h12 u0 2 2 (.int (-1)) fun h17 =>
  Q (.inl none) h17
theorem v_X0_init {l : Launch} {G : mv_G} {d : Nat} {u0 : Nat} {h : mv_H} {Q : mv_O → mv_H → Prop} (hG : mv_ok G) (hq : w_X0_init l G d u0 h Q) : mv_rq l G mX0_init (d + 1) 0 (mv_in [.ref u0] 1) [] h Q := by
  unfold w_X0_init at hq
  show mv_rq l G mX0_init (d + 1) 0 [some (.ref u0)] [] h _
  refine q_aload_n dX0_init_0 rfl ?_
  refine q_objI dX0_init_1 ml_RX0_3 obj_in obj_co rfl (Nat.le_of_ble_eq_true rfl) ?_
  refine q_aload_n dX0_init_4 rfl ?_
  obtain ⟨a5, ea5, hq⟩ := vst_e hq
  refine q_ldcS dX0_init_5 ea5 ?_
  obtain ⟨fs7, h7, f7, b7, l7, e7, hq⟩ := vpu_e hq
  refine q_putf (k := 0) (T := TX0) (C0 := RX0) (N := 3) (ci := 2) (ty := (.object "java/lang/String")) tyX0 tyX0_ok nmX0 dX0_init_7 fl_RX0_11 rfl uin_RX0 (by decide) rfl rfl (by decide +kernel) rfl rfl b7 f7 l7 ?_
  rw [← e7]
  show mv_rq l G mX0_init (d + 1) 10 [some (.ref u0)] [] h7 _
  refine q_aload_n dX0_init_10 rfl ?_
  refine q_iconst (v := 0) dX0_init_11 (by decide) ?_
  obtain ⟨fs12, h12, f12, b12, l12, e12, hq⟩ := vpu_e hq
  refine q_putf (k := 1) (T := TX0) (C0 := RX0) (N := 3) (ci := 2) (ty := .int) tyX0 tyX0_ok nmX0 dX0_init_12 fl_RX0_17 rfl uin_RX0 (by decide) rfl rfl (by decide +kernel) rfl rfl b12 f12 l12 ?_
  rw [← e12]
  show mv_rq l G mX0_init (d + 1) 15 [some (.ref u0)] [] h12 _
  refine q_aload_n dX0_init_15 rfl ?_
  refine q_iconst (v := (-1)) dX0_init_16 (by decide) ?_
  obtain ⟨fs17, h17, f17, b17, l17, e17, hq⟩ := vpu_e hq
  refine q_putf (k := 2) (T := TX0) (C0 := RX0) (N := 3) (ci := 2) (ty := .int) tyX0 tyX0_ok nmX0 dX0_init_17 fl_RX0_21 rfl uin_RX0 (by decide) rfl rfl (by decide +kernel) rfl rfl b17 f17 l17 ?_
  rw [← e17]
  show mv_rq l G mX0_init (d + 1) 20 [some (.ref u0)] [] h17 _
  exact q_vret dX0_init_20 rfl hq
def w_X6_init (l : Launch) (G : mv_G) (d : Nat) (u0 : Nat) (h : mv_H) (Q : mv_O → mv_H → Prop) : Prop :=
  vnw h 300 (.inl (mv_t G 1, 300, .inl (fun _ => 0))) fun a8 h8 =>
  vpu G h8 u0 8 0 (.ref a8) fun h10 =>
  vpu G h10 u0 8 1 (.int 0) fun h15 =>
  Q (.inl none) h15
theorem v_X6_init {l : Launch} {G : mv_G} {d : Nat} {u0 : Nat} {h : mv_H} {Q : mv_O → mv_H → Prop} (hG : mv_ok G) (hq : w_X6_init l G d u0 h Q) : mv_rq l G mX6_init (d + 1) 0 (mv_in [.ref u0] 1) [] h Q := by
  unfold w_X6_init at hq
  show mv_rq l G mX6_init (d + 1) 0 [some (.ref u0)] [] h _
  refine q_aload_n dX6_init_0 rfl ?_
  refine q_objI dX6_init_1 ml_RX6_3 obj_in obj_co rfl (Nat.le_of_ble_eq_true rfl) ?_
  refine q_aload_n dX6_init_4 rfl ?_
  refine q_sipush (v := 300) dX6_init_5 (by decide) ?_
  obtain ⟨a8, h8, ea8, eh8, hq⟩ := vnw_e hq
  refine q_newa (t0 := 1) (N := 300) (a0 := (300, .inl (fun _ => 0))) dX6_init_8 rfl (fun _ z => nomatch z) arr_int (mv_tI hG) rfl (by decide) (by decide) (by decide) ?_
  rw [← eh8, ← ea8]
  show mv_rq l G mX6_init (d + 1) 10 [some (.ref u0)] [.ref a8, .ref u0] h8 _
  obtain ⟨fs10, h10, f10, b10, l10, e10, hq⟩ := vpu_e hq
  refine q_putF (k := 0) (T := TX6) (C0 := RX6) (N := 2) (ci := 8) (ty := (.array .int)) tyX6 tyX6_ok nmX6 dX6_init_10 fl_RX6_9 rfl uin_RX6 (by decide) rfl rfl rfl rfl (by decide +kernel) rfl rfl b10 f10 l10 ?_
  rw [← e10]
  show mv_rq l G mX6_init (d + 1) 13 [some (.ref u0)] [] h10 _
  refine q_aload_n dX6_init_13 rfl ?_
  refine q_iconst (v := 0) dX6_init_14 (by decide) ?_
  obtain ⟨fs15, h15, f15, b15, l15, e15, hq⟩ := vpu_e hq
  refine q_putf (k := 1) (T := TX6) (C0 := RX6) (N := 2) (ci := 8) (ty := .int) tyX6 tyX6_ok nmX6 dX6_init_15 fl_RX6_15 rfl uin_RX6 (by decide) rfl rfl (by decide +kernel) rfl rfl b15 f15 l15 ?_
  rw [← e15]
  show mv_rq l G mX6_init (d + 1) 18 [some (.ref u0)] [] h15 _
  exact q_vret dX6_init_18 rfl hq
