theorem dX5_init_0 : decode cX5_init 0 = .ok (.aload_n 0, 1) := by decide +kernel
theorem dX5_init_1 : decode cX5_init 1 = .ok (.invokespecial 3, 3) := by decide +kernel
theorem dX5_init_4 : decode cX5_init 4 = .ok (.aload_n 0, 1) := by decide +kernel
theorem dX5_init_5 : decode cX5_init 5 = .ok (.new 9, 3) := by decide +kernel
theorem dX5_init_8 : decode cX5_init 8 = .ok (.dup, 1) := by decide +kernel
theorem dX5_init_9 : decode cX5_init 9 = .ok (.invokespecial 11, 3) := by decide +kernel
theorem dX5_init_12 : decode cX5_init 12 = .ok (.putfield 12, 3) := by decide +kernel
theorem dX5_init_15 : decode cX5_init 15 = .ok (.aload_n 0, 1) := by decide +kernel
theorem dX5_init_16 : decode cX5_init 16 = .ok (.aconst_null, 1) := by decide +kernel
theorem dX5_init_17 : decode cX5_init 17 = .ok (.putfield 18, 3) := by decide +kernel
theorem dX5_init_20 : decode cX5_init 20 = .ok (.return_, 1) := by decide +kernel
theorem dX5_readFrom_0 : decode cX5_readFrom 0 = .ok (.aload_n 0, 1) := by decide +kernel
theorem dX5_readFrom_1 : decode cX5_readFrom 1 = .ok (.getfield 12, 3) := by decide +kernel
theorem dX5_readFrom_4 : decode cX5_readFrom 4 = .ok (.aload_n 1, 1) := by decide +kernel
theorem dX5_readFrom_5 : decode cX5_readFrom 5 = .ok (.invokevirtual 22, 3) := by decide +kernel
theorem dX5_readFrom_8 : decode cX5_readFrom 8 = .ok (.aload_n 0, 1) := by decide +kernel
theorem dX5_readFrom_9 : decode cX5_readFrom 9 = .ok (.getfield 12, 3) := by decide +kernel
theorem dX5_readFrom_12 : decode cX5_readFrom 12 = .ok (.invokevirtual 26, 3) := by decide +kernel
theorem dX5_readFrom_15 : decode cX5_readFrom 15 = .ok (.bipush 36, 2) := by decide +kernel
theorem dX5_readFrom_17 : decode cX5_readFrom 17 = .ok (.if_icmp .eq 17, 3) := by decide +kernel
theorem dX5_readFrom_20 : decode cX5_readFrom 20 = .ok (.aload_n 0, 1) := by decide +kernel
theorem dX5_readFrom_21 : decode cX5_readFrom 21 = .ok (.getfield 12, 3) := by decide +kernel
theorem dX5_readFrom_24 : decode cX5_readFrom 24 = .ok (.aload_n 0, 1) := by decide +kernel
theorem dX5_readFrom_25 : decode cX5_readFrom 25 = .ok (.getfield 12, 3) := by decide +kernel
theorem dX5_readFrom_28 : decode cX5_readFrom 28 = .ok (.getfield 30, 3) := by decide +kernel
theorem dX5_readFrom_31 : decode cX5_readFrom 31 = .ok (.invokevirtual 34, 3) := by decide +kernel
theorem dX5_readFrom_34 : decode cX5_readFrom 34 = .ok (.aload_n 0, 1) := by decide +kernel
theorem dX5_readFrom_35 : decode cX5_readFrom 35 = .ok (.iconst 0, 1) := by decide +kernel
theorem dX5_readFrom_36 : decode cX5_readFrom 36 = .ok (.invokevirtual 38, 3) := by decide +kernel
theorem dX5_readFrom_39 : decode cX5_readFrom 39 = .ok (.astore_n 2, 1) := by decide +kernel
theorem dX5_readFrom_40 : decode cX5_readFrom 40 = .ok (.aload_n 0, 1) := by decide +kernel
theorem dX5_readFrom_41 : decode cX5_readFrom 41 = .ok (.getfield 12, 3) := by decide +kernel
theorem dX5_readFrom_44 : decode cX5_readFrom 44 = .ok (.invokevirtual 42, 3) := by decide +kernel
theorem dX5_readFrom_47 : decode cX5_readFrom 47 = .ok (.aload_n 0, 1) := by decide +kernel
theorem dX5_readFrom_48 : decode cX5_readFrom 48 = .ok (.aload_n 2, 1) := by decide +kernel
theorem dX5_readFrom_49 : decode cX5_readFrom 49 = .ok (.putfield 18, 3) := by decide +kernel
theorem dX5_readFrom_52 : decode cX5_readFrom 52 = .ok (.goto 12, 3) := by decide +kernel
theorem dX5_readFrom_55 : decode cX5_readFrom 55 = .ok (.astore_n 2, 1) := by decide +kernel
theorem dX5_readFrom_56 : decode cX5_readFrom 56 = .ok (.aload_n 0, 1) := by decide +kernel
theorem dX5_readFrom_57 : decode cX5_readFrom 57 = .ok (.getfield 12, 3) := by decide +kernel
theorem dX5_readFrom_60 : decode cX5_readFrom 60 = .ok (.getfield 47, 3) := by decide +kernel
theorem dX5_readFrom_63 : decode cX5_readFrom 63 = .ok (.ireturn, 1) := by decide +kernel
theorem dX5_readFrom_64 : decode cX5_readFrom 64 = .ok (.iconst (-1), 1) := by decide +kernel
theorem dX5_readFrom_65 : decode cX5_readFrom 65 = .ok (.ireturn, 1) := by decide +kernel
theorem dX5_readPath_0 : decode cX5_readPath 0 = .ok (.new 50, 3) := by decide +kernel
theorem dX5_readPath_3 : decode cX5_readPath 3 = .ok (.dup, 1) := by decide +kernel
theorem dX5_readPath_4 : decode cX5_readPath 4 = .ok (.aload_n 0, 1) := by decide +kernel
theorem dX5_readPath_5 : decode cX5_readPath 5 = .ok (.getfield 12, 3) := by decide +kernel
theorem dX5_readPath_8 : decode cX5_readPath 8 = .ok (.invokevirtual 26, 3) := by decide +kernel
theorem dX5_readPath_11 : decode cX5_readPath 11 = .ok (.bipush 36, 2) := by decide +kernel
theorem dX5_readPath_13 : decode cX5_readPath 13 = .ok (.if_icmp .ne 7, 3) := by decide +kernel
theorem dX5_readPath_16 : decode cX5_readPath 16 = .ok (.iconst 1, 1) := by decide +kernel
theorem dX5_readPath_17 : decode cX5_readPath 17 = .ok (.goto 4, 3) := by decide +kernel
theorem dX5_readPath_20 : decode cX5_readPath 20 = .ok (.iconst 0, 1) := by decide +kernel
theorem dX5_readPath_21 : decode cX5_readPath 21 = .ok (.invokespecial 52, 3) := by decide +kernel
theorem dX5_readPath_24 : decode cX5_readPath 24 = .ok (.astore_n 2, 1) := by decide +kernel
theorem dX5_readPath_25 : decode cX5_readPath 25 = .ok (.aload_n 0, 1) := by decide +kernel
theorem dX5_readPath_26 : decode cX5_readPath 26 = .ok (.getfield 12, 3) := by decide +kernel
theorem dX5_readPath_29 : decode cX5_readPath 29 = .ok (.invokevirtual 55, 3) := by decide +kernel
theorem dX5_readPath_32 : decode cX5_readPath 32 = .ok (.iconst 0, 1) := by decide +kernel
theorem dX5_readPath_33 : decode cX5_readPath 33 = .ok (.istore_n 3, 1) := by decide +kernel
theorem dX5_readPath_34 : decode cX5_readPath 34 = .ok (.iload_n 3, 1) := by decide +kernel
theorem dX5_readPath_35 : decode cX5_readPath 35 = .ok (.sipush 160, 3) := by decide +kernel
theorem dX5_readPath_38 : decode cX5_readPath 38 = .ok (.if_icmp .ge 25, 3) := by decide +kernel
theorem dX5_readPath_41 : decode cX5_readPath 41 = .ok (.aload_n 0, 1) := by decide +kernel
theorem dX5_readPath_42 : decode cX5_readPath 42 = .ok (.invokevirtual 58, 3) := by decide +kernel
theorem dX5_readPath_45 : decode cX5_readPath 45 = .ok (.ifCond .eq 18, 3) := by decide +kernel
theorem dX5_readPath_48 : decode cX5_readPath 48 = .ok (.aload_n 2, 1) := by decide +kernel
theorem dX5_readPath_49 : decode cX5_readPath 49 = .ok (.aload_n 0, 1) := by decide +kernel
theorem dX5_readPath_50 : decode cX5_readPath 50 = .ok (.iload_n 1, 1) := by decide +kernel
theorem dX5_readPath_51 : decode cX5_readPath 51 = .ok (.invokevirtual 62, 3) := by decide +kernel
theorem dX5_readPath_54 : decode cX5_readPath 54 = .ok (.invokevirtual 66, 3) := by decide +kernel
theorem dX5_readPath_57 : decode cX5_readPath 57 = .ok (.iinc 3 1, 3) := by decide +kernel
theorem dX5_readPath_60 : decode cX5_readPath 60 = .ok (.goto (-26), 3) := by decide +kernel
theorem dX5_readPath_63 : decode cX5_readPath 63 = .ok (.aload_n 2, 1) := by decide +kernel
theorem dX5_readPath_64 : decode cX5_readPath 64 = .ok (.areturn, 1) := by decide +kernel
theorem dX5_seesPath_0 : decode cX5_seesPath 0 = .ok (.aload_n 0, 1) := by decide +kernel
theorem dX5_seesPath_1 : decode cX5_seesPath 1 = .ok (.getfield 12, 3) := by decide +kernel
theorem dX5_seesPath_4 : decode cX5_seesPath 4 = .ok (.invokevirtual 26, 3) := by decide +kernel
theorem dX5_seesPath_7 : decode cX5_seesPath 7 = .ok (.bipush 64, 2) := by decide +kernel
theorem dX5_seesPath_9 : decode cX5_seesPath 9 = .ok (.if_icmp .eq 15, 3) := by decide +kernel
theorem dX5_seesPath_12 : decode cX5_seesPath 12 = .ok (.aload_n 0, 1) := by decide +kernel
theorem dX5_seesPath_13 : decode cX5_seesPath 13 = .ok (.getfield 12, 3) := by decide +kernel
theorem dX5_seesPath_16 : decode cX5_seesPath 16 = .ok (.invokevirtual 26, 3) := by decide +kernel
theorem dX5_seesPath_19 : decode cX5_seesPath 19 = .ok (.bipush 36, 2) := by decide +kernel
theorem dX5_seesPath_21 : decode cX5_seesPath 21 = .ok (.if_icmp .ne 7, 3) := by decide +kernel
theorem dX5_seesPath_24 : decode cX5_seesPath 24 = .ok (.iconst 1, 1) := by decide +kernel
theorem dX5_seesPath_25 : decode cX5_seesPath 25 = .ok (.goto 4, 3) := by decide +kernel
theorem dX5_seesPath_28 : decode cX5_seesPath 28 = .ok (.iconst 0, 1) := by decide +kernel
theorem dX5_seesPath_29 : decode cX5_seesPath 29 = .ok (.ireturn, 1) := by decide +kernel
theorem dX5_seesSegment_0 : decode cX5_seesSegment 0 = .ok (.aload_n 0, 1) := by decide +kernel
theorem dX5_seesSegment_1 : decode cX5_seesSegment 1 = .ok (.getfield 12, 3) := by decide +kernel
theorem dX5_seesSegment_4 : decode cX5_seesSegment 4 = .ok (.invokevirtual 26, 3) := by decide +kernel
theorem dX5_seesSegment_7 : decode cX5_seesSegment 7 = .ok (.bipush 46, 2) := by decide +kernel
theorem dX5_seesSegment_9 : decode cX5_seesSegment 9 = .ok (.if_icmp .eq 15, 3) := by decide +kernel
theorem dX5_seesSegment_12 : decode cX5_seesSegment 12 = .ok (.aload_n 0, 1) := by decide +kernel
theorem dX5_seesSegment_13 : decode cX5_seesSegment 13 = .ok (.getfield 12, 3) := by decide +kernel
theorem dX5_seesSegment_16 : decode cX5_seesSegment 16 = .ok (.invokevirtual 26, 3) := by decide +kernel
theorem dX5_seesSegment_19 : decode cX5_seesSegment 19 = .ok (.bipush 91, 2) := by decide +kernel
theorem dX5_seesSegment_21 : decode cX5_seesSegment 21 = .ok (.if_icmp .ne 7, 3) := by decide +kernel
theorem dX5_seesSegment_24 : decode cX5_seesSegment 24 = .ok (.iconst 1, 1) := by decide +kernel
theorem dX5_seesSegment_25 : decode cX5_seesSegment 25 = .ok (.goto 4, 3) := by decide +kernel
theorem dX5_seesSegment_28 : decode cX5_seesSegment 28 = .ok (.iconst 0, 1) := by decide +kernel
theorem dX5_seesSegment_29 : decode cX5_seesSegment 29 = .ok (.ireturn, 1) := by decide +kernel
theorem dX5_readSegment_0 : decode cX5_readSegment 0 = .ok (.aload_n 0, 1) := by decide +kernel
theorem dX5_readSegment_1 : decode cX5_readSegment 1 = .ok (.getfield 12, 3) := by decide +kernel
theorem dX5_readSegment_4 : decode cX5_readSegment 4 = .ok (.bipush 46, 2) := by decide +kernel
theorem dX5_readSegment_6 : decode cX5_readSegment 6 = .ok (.invokevirtual 70, 3) := by decide +kernel
theorem dX5_readSegment_9 : decode cX5_readSegment 9 = .ok (.istore_n 2, 1) := by decide +kernel
theorem dX5_readSegment_10 : decode cX5_readSegment 10 = .ok (.new 74, 3) := by decide +kernel
theorem dX5_readSegment_13 : decode cX5_readSegment 13 = .ok (.dup, 1) := by decide +kernel
theorem dX5_readSegment_14 : decode cX5_readSegment 14 = .ok (.iload_n 2, 1) := by decide +kernel
theorem dX5_readSegment_15 : decode cX5_readSegment 15 = .ok (.ifCond .eq 19, 3) := by decide +kernel
theorem dX5_readSegment_18 : decode cX5_readSegment 18 = .ok (.aload_n 0, 1) := by decide +kernel
theorem dX5_readSegment_19 : decode cX5_readSegment 19 = .ok (.getfield 12, 3) := by decide +kernel
theorem dX5_readSegment_22 : decode cX5_readSegment 22 = .ok (.bipush 46, 2) := by decide +kernel
theorem dX5_readSegment_24 : decode cX5_readSegment 24 = .ok (.invokevirtual 70, 3) := by decide +kernel
theorem dX5_readSegment_27 : decode cX5_readSegment 27 = .ok (.ifCond .eq 7, 3) := by decide +kernel
theorem dX5_readSegment_30 : decode cX5_readSegment 30 = .ok (.iconst 1, 1) := by decide +kernel
theorem dX5_readSegment_31 : decode cX5_readSegment 31 = .ok (.goto 4, 3) := by decide +kernel
theorem dX5_readSegment_34 : decode cX5_readSegment 34 = .ok (.iconst 0, 1) := by decide +kernel
theorem dX5_readSegment_35 : decode cX5_readSegment 35 = .ok (.invokespecial 76, 3) := by decide +kernel
theorem dX5_readSegment_38 : decode cX5_readSegment 38 = .ok (.astore_n 3, 1) := by decide +kernel
theorem dX5_readSegment_39 : decode cX5_readSegment 39 = .ok (.aload_n 0, 1) := by decide +kernel
theorem dX5_readSegment_40 : decode cX5_readSegment 40 = .ok (.getfield 12, 3) := by decide +kernel
theorem dX5_readSegment_43 : decode cX5_readSegment 43 = .ok (.invokevirtual 26, 3) := by decide +kernel
theorem dX5_readSegment_46 : decode cX5_readSegment 46 = .ok (.bipush 91, 2) := by decide +kernel
theorem dX5_readSegment_48 : decode cX5_readSegment 48 = .ok (.if_icmp .ne 23, 3) := by decide +kernel
theorem dX5_readSegment_51 : decode cX5_readSegment 51 = .ok (.iload_n 2, 1) := by decide +kernel
theorem dX5_readSegment_52 : decode cX5_readSegment 52 = .ok (.ifCond .eq 10, 3) := by decide +kernel
theorem dX5_readSegment_55 : decode cX5_readSegment 55 = .ok (.aload_n 3, 1) := by decide +kernel
theorem dX5_readSegment_56 : decode cX5_readSegment 56 = .ok (.getfield 77, 3) := by decide +kernel
theorem dX5_readSegment_59 : decode cX5_readSegment 59 = .ok (.ifCond .eq 12, 3) := by decide +kernel
theorem dX5_readSegment_62 : decode cX5_readSegment 62 = .ok (.aload_n 0, 1) := by decide +kernel
theorem dX5_readSegment_63 : decode cX5_readSegment 63 = .ok (.aload_n 3, 1) := by decide +kernel
theorem dX5_readSegment_64 : decode cX5_readSegment 64 = .ok (.iload_n 1, 1) := by decide +kernel
theorem dX5_readSegment_65 : decode cX5_readSegment 65 = .ok (.invokevirtual 81, 3) := by decide +kernel
theorem dX5_readSegment_68 : decode cX5_readSegment 68 = .ok (.goto 58, 3) := by decide +kernel
theorem dX5_readSegment_71 : decode cX5_readSegment 71 = .ok (.aload_n 0, 1) := by decide +kernel
theorem dX5_readSegment_72 : decode cX5_readSegment 72 = .ok (.getfield 12, 3) := by decide +kernel
theorem dX5_readSegment_75 : decode cX5_readSegment 75 = .ok (.bipush 42, 2) := by decide +kernel
theorem dX5_readSegment_77 : decode cX5_readSegment 77 = .ok (.invokevirtual 70, 3) := by decide +kernel
theorem dX5_readSegment_80 : decode cX5_readSegment 80 = .ok (.ifCond .eq 18, 3) := by decide +kernel
theorem dX5_readSegment_83 : decode cX5_readSegment 83 = .ok (.aload_n 3, 1) := by decide +kernel
theorem dX5_readSegment_84 : decode cX5_readSegment 84 = .ok (.new 85, 3) := by decide +kernel
theorem dX5_readSegment_87 : decode cX5_readSegment 87 = .ok (.dup, 1) := by decide +kernel
theorem dX5_readSegment_88 : decode cX5_readSegment 88 = .ok (.iconst 1, 1) := by decide +kernel
theorem dX5_readSegment_89 : decode cX5_readSegment 89 = .ok (.invokespecial 87, 3) := by decide +kernel
theorem dX5_readSegment_92 : decode cX5_readSegment 92 = .ok (.invokevirtual 89, 3) := by decide +kernel
theorem dX5_readSegment_95 : decode cX5_readSegment 95 = .ok (.goto 31, 3) := by decide +kernel
theorem dX5_readSegment_98 : decode cX5_readSegment 98 = .ok (.new 85, 3) := by decide +kernel
theorem dX5_readSegment_101 : decode cX5_readSegment 101 = .ok (.dup, 1) := by decide +kernel
theorem dX5_readSegment_102 : decode cX5_readSegment 102 = .ok (.iconst 0, 1) := by decide +kernel
theorem dX5_readSegment_103 : decode cX5_readSegment 103 = .ok (.invokespecial 87, 3) := by decide +kernel
theorem dX5_readSegment_106 : decode cX5_readSegment 106 = .ok (.astore 4, 2) := by decide +kernel
theorem dX5_readSegment_108 : decode cX5_readSegment 108 = .ok (.aload 4, 2) := by decide +kernel
theorem dX5_readSegment_110 : decode cX5_readSegment 110 = .ok (.aload_n 0, 1) := by decide +kernel
theorem dX5_readSegment_111 : decode cX5_readSegment 111 = .ok (.getfield 12, 3) := by decide +kernel
theorem dX5_readSegment_114 : decode cX5_readSegment 114 = .ok (.invokevirtual 92, 3) := by decide +kernel
theorem dX5_readSegment_117 : decode cX5_readSegment 117 = .ok (.putfield 96, 3) := by decide +kernel
theorem dX5_readSegment_120 : decode cX5_readSegment 120 = .ok (.aload_n 3, 1) := by decide +kernel
theorem dX5_readSegment_121 : decode cX5_readSegment 121 = .ok (.aload 4, 2) := by decide +kernel
theorem dX5_readSegment_123 : decode cX5_readSegment 123 = .ok (.invokevirtual 89, 3) := by decide +kernel
theorem dX5_readSegment_126 : decode cX5_readSegment 126 = .ok (.aload_n 3, 1) := by decide +kernel
theorem dX5_readSegment_127 : decode cX5_readSegment 127 = .ok (.areturn, 1) := by decide +kernel
theorem dX5_readSelectors_0 : decode cX5_readSelectors 0 = .ok (.aload_n 0, 1) := by decide +kernel
theorem dX5_readSelectors_1 : decode cX5_readSelectors 1 = .ok (.getfield 12, 3) := by decide +kernel
theorem dX5_readSelectors_4 : decode cX5_readSelectors 4 = .ok (.bipush 91, 2) := by decide +kernel
theorem dX5_readSelectors_6 : decode cX5_readSelectors 6 = .ok (.invokevirtual 100, 3) := by decide +kernel
theorem dX5_readSelectors_9 : decode cX5_readSelectors 9 = .ok (.iconst 0, 1) := by decide +kernel
theorem dX5_readSelectors_10 : decode cX5_readSelectors 10 = .ok (.istore_n 3, 1) := by decide +kernel
theorem dX5_readSelectors_11 : decode cX5_readSelectors 11 = .ok (.aload_n 1, 1) := by decide +kernel
theorem dX5_readSelectors_12 : decode cX5_readSelectors 12 = .ok (.aload_n 0, 1) := by decide +kernel
theorem dX5_readSelectors_13 : decode cX5_readSelectors 13 = .ok (.iload_n 2, 1) := by decide +kernel
theorem dX5_readSelectors_14 : decode cX5_readSelectors 14 = .ok (.invokevirtual 104, 3) := by decide +kernel
theorem dX5_readSelectors_17 : decode cX5_readSelectors 17 = .ok (.invokevirtual 89, 3) := by decide +kernel
theorem dX5_readSelectors_20 : decode cX5_readSelectors 20 = .ok (.iinc 3 1, 3) := by decide +kernel
theorem dX5_readSelectors_23 : decode cX5_readSelectors 23 = .ok (.iload_n 3, 1) := by decide +kernel
theorem dX5_readSelectors_24 : decode cX5_readSelectors 24 = .ok (.iconst 4, 1) := by decide +kernel
theorem dX5_readSelectors_25 : decode cX5_readSelectors 25 = .ok (.if_icmp .ge 15, 3) := by decide +kernel
theorem dX5_readSelectors_28 : decode cX5_readSelectors 28 = .ok (.aload_n 0, 1) := by decide +kernel
theorem dX5_readSelectors_29 : decode cX5_readSelectors 29 = .ok (.getfield 12, 3) := by decide +kernel
theorem dX5_readSelectors_32 : decode cX5_readSelectors 32 = .ok (.bipush 44, 2) := by decide +kernel
theorem dX5_readSelectors_34 : decode cX5_readSelectors 34 = .ok (.invokevirtual 70, 3) := by decide +kernel
theorem dX5_readSelectors_37 : decode cX5_readSelectors 37 = .ok (.ifCond .ne (-26), 3) := by decide +kernel
theorem dX5_readSelectors_40 : decode cX5_readSelectors 40 = .ok (.aload_n 0, 1) := by decide +kernel
theorem dX5_readSelectors_41 : decode cX5_readSelectors 41 = .ok (.getfield 12, 3) := by decide +kernel
theorem dX5_readSelectors_44 : decode cX5_readSelectors 44 = .ok (.bipush 93, 2) := by decide +kernel
theorem dX5_readSelectors_46 : decode cX5_readSelectors 46 = .ok (.invokevirtual 100, 3) := by decide +kernel
theorem dX5_readSelectors_49 : decode cX5_readSelectors 49 = .ok (.return_, 1) := by decide +kernel
theorem dX5_readSelector_0 : decode cX5_readSelector 0 = .ok (.aload_n 0, 1) := by decide +kernel
theorem dX5_readSelector_1 : decode cX5_readSelector 1 = .ok (.getfield 12, 3) := by decide +kernel
theorem dX5_readSelector_4 : decode cX5_readSelector 4 = .ok (.invokevirtual 26, 3) := by decide +kernel
theorem dX5_readSelector_7 : decode cX5_readSelector 7 = .ok (.lookupswitch 119 #[(39, 41), (42, 67), (58, 112), (63, 83)], 41) := by decide +kernel
theorem dX5_readSelector_48 : decode cX5_readSelector 48 = .ok (.new 85, 3) := by decide +kernel
theorem dX5_readSelector_51 : decode cX5_readSelector 51 = .ok (.dup, 1) := by decide +kernel
theorem dX5_readSelector_52 : decode cX5_readSelector 52 = .ok (.iconst 0, 1) := by decide +kernel
theorem dX5_readSelector_53 : decode cX5_readSelector 53 = .ok (.invokespecial 87, 3) := by decide +kernel
theorem dX5_readSelector_56 : decode cX5_readSelector 56 = .ok (.astore_n 2, 1) := by decide +kernel
theorem dX5_readSelector_57 : decode cX5_readSelector 57 = .ok (.aload_n 2, 1) := by decide +kernel
theorem dX5_readSelector_58 : decode cX5_readSelector 58 = .ok (.aload_n 0, 1) := by decide +kernel
theorem dX5_readSelector_59 : decode cX5_readSelector 59 = .ok (.getfield 12, 3) := by decide +kernel
theorem dX5_readSelector_62 : decode cX5_readSelector 62 = .ok (.bipush 39, 2) := by decide +kernel
theorem dX5_readSelector_64 : decode cX5_readSelector 64 = .ok (.bipush 39, 2) := by decide +kernel
theorem dX5_readSelector_66 : decode cX5_readSelector 66 = .ok (.invokevirtual 108, 3) := by decide +kernel
theorem dX5_readSelector_69 : decode cX5_readSelector 69 = .ok (.putfield 96, 3) := by decide +kernel
theorem dX5_readSelector_72 : decode cX5_readSelector 72 = .ok (.aload_n 2, 1) := by decide +kernel
theorem dX5_readSelector_73 : decode cX5_readSelector 73 = .ok (.areturn, 1) := by decide +kernel
theorem dX5_readSelector_74 : decode cX5_readSelector 74 = .ok (.aload_n 0, 1) := by decide +kernel
theorem dX5_readSelector_75 : decode cX5_readSelector 75 = .ok (.getfield 12, 3) := by decide +kernel
theorem dX5_readSelector_78 : decode cX5_readSelector 78 = .ok (.invokevirtual 55, 3) := by decide +kernel
theorem dX5_readSelector_81 : decode cX5_readSelector 81 = .ok (.new 85, 3) := by decide +kernel
theorem dX5_readSelector_84 : decode cX5_readSelector 84 = .ok (.dup, 1) := by decide +kernel
theorem dX5_readSelector_85 : decode cX5_readSelector 85 = .ok (.iconst 1, 1) := by decide +kernel
theorem dX5_readSelector_86 : decode cX5_readSelector 86 = .ok (.invokespecial 87, 3) := by decide +kernel
theorem dX5_readSelector_89 : decode cX5_readSelector 89 = .ok (.areturn, 1) := by decide +kernel
theorem dX5_readSelector_90 : decode cX5_readSelector 90 = .ok (.aload_n 0, 1) := by decide +kernel
theorem dX5_readSelector_91 : decode cX5_readSelector 91 = .ok (.bipush 63, 2) := by decide +kernel
theorem dX5_readSelector_93 : decode cX5_readSelector 93 = .ok (.iload_n 1, 1) := by decide +kernel
theorem dX5_readSelector_94 : decode cX5_readSelector 94 = .ok (.invokevirtual 112, 3) := by decide +kernel
theorem dX5_readSelector_97 : decode cX5_readSelector 97 = .ok (.new 85, 3) := by decide +kernel
theorem dX5_readSelector_100 : decode cX5_readSelector 100 = .ok (.dup, 1) := by decide +kernel
theorem dX5_readSelector_101 : decode cX5_readSelector 101 = .ok (.iconst 4, 1) := by decide +kernel
theorem dX5_readSelector_102 : decode cX5_readSelector 102 = .ok (.invokespecial 87, 3) := by decide +kernel
theorem dX5_readSelector_105 : decode cX5_readSelector 105 = .ok (.astore_n 2, 1) := by decide +kernel
theorem dX5_readSelector_106 : decode cX5_readSelector 106 = .ok (.aload_n 2, 1) := by decide +kernel
theorem dX5_readSelector_107 : decode cX5_readSelector 107 = .ok (.aload_n 0, 1) := by decide +kernel
theorem dX5_readSelector_108 : decode cX5_readSelector 108 = .ok (.iload_n 1, 1) := by decide +kernel
theorem dX5_readSelector_109 : decode cX5_readSelector 109 = .ok (.iconst 1, 1) := by decide +kernel
theorem dX5_readSelector_110 : decode cX5_readSelector 110 = .ok (.iadd, 1) := by decide +kernel
theorem dX5_readSelector_111 : decode cX5_readSelector 111 = .ok (.invokevirtual 116, 3) := by decide +kernel
theorem dX5_readSelector_114 : decode cX5_readSelector 114 = .ok (.putfield 120, 3) := by decide +kernel
theorem dX5_readSelector_117 : decode cX5_readSelector 117 = .ok (.aload_n 2, 1) := by decide +kernel
theorem dX5_readSelector_118 : decode cX5_readSelector 118 = .ok (.areturn, 1) := by decide +kernel
theorem dX5_readSelector_119 : decode cX5_readSelector 119 = .ok (.aload_n 0, 1) := by decide +kernel
theorem dX5_readSelector_120 : decode cX5_readSelector 120 = .ok (.iconst 0, 1) := by decide +kernel
theorem dX5_readSelector_121 : decode cX5_readSelector 121 = .ok (.iconst 0, 1) := by decide +kernel
theorem dX5_readSelector_122 : decode cX5_readSelector 122 = .ok (.invokevirtual 124, 3) := by decide +kernel
theorem dX5_readSelector_125 : decode cX5_readSelector 125 = .ok (.areturn, 1) := by decide +kernel
theorem dX5_readSelector_126 : decode cX5_readSelector 126 = .ok (.aload_n 0, 1) := by decide +kernel
theorem dX5_readSelector_127 : decode cX5_readSelector 127 = .ok (.invokevirtual 128, 3) := by decide +kernel
theorem dX5_readSelector_130 : decode cX5_readSelector 130 = .ok (.areturn, 1) := by decide +kernel
theorem dX5_readPlaceOrStretch_0 : decode cX5_readPlaceOrStretch 0 = .ok (.aload_n 0, 1) := by decide +kernel
theorem dX5_readPlaceOrStretch_1 : decode cX5_readPlaceOrStretch 1 = .ok (.getfield 12, 3) := by decide +kernel
theorem dX5_readPlaceOrStretch_4 : decode cX5_readPlaceOrStretch 4 = .ok (.iconst 3, 1) := by decide +kernel
theorem dX5_readPlaceOrStretch_5 : decode cX5_readPlaceOrStretch 5 = .ok (.invokevirtual 132, 3) := by decide +kernel
theorem dX5_readPlaceOrStretch_8 : decode cX5_readPlaceOrStretch 8 = .ok (.istore_n 1, 1) := by decide +kernel
theorem dX5_readPlaceOrStretch_9 : decode cX5_readPlaceOrStretch 9 = .ok (.aload_n 0, 1) := by decide +kernel
theorem dX5_readPlaceOrStretch_10 : decode cX5_readPlaceOrStretch 10 = .ok (.getfield 12, 3) := by decide +kernel
theorem dX5_readPlaceOrStretch_13 : decode cX5_readPlaceOrStretch 13 = .ok (.invokevirtual 26, 3) := by decide +kernel
theorem dX5_readPlaceOrStretch_16 : decode cX5_readPlaceOrStretch 16 = .ok (.bipush 58, 2) := by decide +kernel
theorem dX5_readPlaceOrStretch_18 : decode cX5_readPlaceOrStretch 18 = .ok (.if_icmp .ne 10, 3) := by decide +kernel
theorem dX5_readPlaceOrStretch_21 : decode cX5_readPlaceOrStretch 21 = .ok (.aload_n 0, 1) := by decide +kernel
theorem dX5_readPlaceOrStretch_22 : decode cX5_readPlaceOrStretch 22 = .ok (.iconst 1, 1) := by decide +kernel
theorem dX5_readPlaceOrStretch_23 : decode cX5_readPlaceOrStretch 23 = .ok (.iload_n 1, 1) := by decide +kernel
theorem dX5_readPlaceOrStretch_24 : decode cX5_readPlaceOrStretch 24 = .ok (.invokevirtual 124, 3) := by decide +kernel
theorem dX5_readPlaceOrStretch_27 : decode cX5_readPlaceOrStretch 27 = .ok (.areturn, 1) := by decide +kernel
theorem dX5_readPlaceOrStretch_28 : decode cX5_readPlaceOrStretch 28 = .ok (.new 85, 3) := by decide +kernel
theorem dX5_readPlaceOrStretch_31 : decode cX5_readPlaceOrStretch 31 = .ok (.dup, 1) := by decide +kernel
theorem dX5_readPlaceOrStretch_32 : decode cX5_readPlaceOrStretch 32 = .ok (.iconst 2, 1) := by decide +kernel
theorem dX5_readPlaceOrStretch_33 : decode cX5_readPlaceOrStretch 33 = .ok (.invokespecial 87, 3) := by decide +kernel
theorem dX5_readPlaceOrStretch_36 : decode cX5_readPlaceOrStretch 36 = .ok (.astore_n 2, 1) := by decide +kernel
theorem dX5_readPlaceOrStretch_37 : decode cX5_readPlaceOrStretch 37 = .ok (.aload_n 2, 1) := by decide +kernel
theorem dX5_readPlaceOrStretch_38 : decode cX5_readPlaceOrStretch 38 = .ok (.iload_n 1, 1) := by decide +kernel
theorem dX5_readPlaceOrStretch_39 : decode cX5_readPlaceOrStretch 39 = .ok (.putfield 136, 3) := by decide +kernel
theorem dX5_readPlaceOrStretch_42 : decode cX5_readPlaceOrStretch 42 = .ok (.aload_n 2, 1) := by decide +kernel
theorem dX5_readPlaceOrStretch_43 : decode cX5_readPlaceOrStretch 43 = .ok (.areturn, 1) := by decide +kernel
theorem dX5_readStretch_0 : decode cX5_readStretch 0 = .ok (.new 85, 3) := by decide +kernel
theorem dX5_readStretch_3 : decode cX5_readStretch 3 = .ok (.dup, 1) := by decide +kernel
theorem dX5_readStretch_4 : decode cX5_readStretch 4 = .ok (.iconst 3, 1) := by decide +kernel
theorem dX5_readStretch_5 : decode cX5_readStretch 5 = .ok (.invokespecial 87, 3) := by decide +kernel
theorem dX5_readStretch_8 : decode cX5_readStretch 8 = .ok (.astore_n 3, 1) := by decide +kernel
theorem dX5_readStretch_9 : decode cX5_readStretch 9 = .ok (.aload_n 3, 1) := by decide +kernel
theorem dX5_readStretch_10 : decode cX5_readStretch 10 = .ok (.iload_n 1, 1) := by decide +kernel
theorem dX5_readStretch_11 : decode cX5_readStretch 11 = .ok (.putfield 139, 3) := by decide +kernel
theorem dX5_readStretch_14 : decode cX5_readStretch 14 = .ok (.aload_n 3, 1) := by decide +kernel
theorem dX5_readStretch_15 : decode cX5_readStretch 15 = .ok (.iload_n 2, 1) := by decide +kernel
theorem dX5_readStretch_16 : decode cX5_readStretch 16 = .ok (.putfield 136, 3) := by decide +kernel
theorem dX5_readStretch_19 : decode cX5_readStretch 19 = .ok (.aload_n 0, 1) := by decide +kernel
theorem dX5_readStretch_20 : decode cX5_readStretch 20 = .ok (.getfield 12, 3) := by decide +kernel
theorem dX5_readStretch_23 : decode cX5_readStretch 23 = .ok (.bipush 58, 2) := by decide +kernel
theorem dX5_readStretch_25 : decode cX5_readStretch 25 = .ok (.invokevirtual 100, 3) := by decide +kernel
theorem dX5_readStretch_28 : decode cX5_readStretch 28 = .ok (.aload_n 0, 1) := by decide +kernel
theorem dX5_readStretch_29 : decode cX5_readStretch 29 = .ok (.getfield 12, 3) := by decide +kernel
theorem dX5_readStretch_32 : decode cX5_readStretch 32 = .ok (.invokevirtual 142, 3) := by decide +kernel
theorem dX5_readStretch_35 : decode cX5_readStretch 35 = .ok (.ifCond .eq 20, 3) := by decide +kernel
theorem dX5_readStretch_38 : decode cX5_readStretch 38 = .ok (.aload_n 3, 1) := by decide +kernel
theorem dX5_readStretch_39 : decode cX5_readStretch 39 = .ok (.iconst 1, 1) := by decide +kernel
theorem dX5_readStretch_40 : decode cX5_readStretch 40 = .ok (.putfield 145, 3) := by decide +kernel
theorem dX5_readStretch_43 : decode cX5_readStretch 43 = .ok (.aload_n 3, 1) := by decide +kernel
theorem dX5_readStretch_44 : decode cX5_readStretch 44 = .ok (.aload_n 0, 1) := by decide +kernel
theorem dX5_readStretch_45 : decode cX5_readStretch 45 = .ok (.getfield 12, 3) := by decide +kernel
theorem dX5_readStretch_48 : decode cX5_readStretch 48 = .ok (.iconst 3, 1) := by decide +kernel
theorem dX5_readStretch_49 : decode cX5_readStretch 49 = .ok (.invokevirtual 132, 3) := by decide +kernel
theorem dX5_readStretch_52 : decode cX5_readStretch 52 = .ok (.putfield 148, 3) := by decide +kernel
theorem dX5_readStretch_55 : decode cX5_readStretch 55 = .ok (.aload_n 0, 1) := by decide +kernel
theorem dX5_readStretch_56 : decode cX5_readStretch 56 = .ok (.getfield 12, 3) := by decide +kernel
theorem dX5_readStretch_59 : decode cX5_readStretch 59 = .ok (.bipush 58, 2) := by decide +kernel
theorem dX5_readStretch_61 : decode cX5_readStretch 61 = .ok (.invokevirtual 70, 3) := by decide +kernel
theorem dX5_readStretch_64 : decode cX5_readStretch 64 = .ok (.ifCond .eq 25, 3) := by decide +kernel
theorem dX5_readStretch_67 : decode cX5_readStretch 67 = .ok (.aload_n 0, 1) := by decide +kernel
theorem dX5_readStretch_68 : decode cX5_readStretch 68 = .ok (.getfield 12, 3) := by decide +kernel
theorem dX5_readStretch_71 : decode cX5_readStretch 71 = .ok (.invokevirtual 142, 3) := by decide +kernel
theorem dX5_readStretch_74 : decode cX5_readStretch 74 = .ok (.ifCond .eq 15, 3) := by decide +kernel
theorem dX5_readStretch_77 : decode cX5_readStretch 77 = .ok (.aload_n 3, 1) := by decide +kernel
theorem dX5_readStretch_78 : decode cX5_readStretch 78 = .ok (.aload_n 0, 1) := by decide +kernel
theorem dX5_readStretch_79 : decode cX5_readStretch 79 = .ok (.getfield 12, 3) := by decide +kernel
theorem dX5_readStretch_82 : decode cX5_readStretch 82 = .ok (.iconst 3, 1) := by decide +kernel
theorem dX5_readStretch_83 : decode cX5_readStretch 83 = .ok (.invokevirtual 132, 3) := by decide +kernel
theorem dX5_readStretch_86 : decode cX5_readStretch 86 = .ok (.putfield 151, 3) := by decide +kernel
theorem dX5_readStretch_89 : decode cX5_readStretch 89 = .ok (.aload_n 3, 1) := by decide +kernel
theorem dX5_readStretch_90 : decode cX5_readStretch 90 = .ok (.areturn, 1) := by decide +kernel
theorem dX5_open_0 : decode cX5_open 0 = .ok (.aload_n 0, 1) := by decide +kernel
theorem dX5_open_1 : decode cX5_open 1 = .ok (.getfield 12, 3) := by decide +kernel
theorem dX5_open_4 : decode cX5_open 4 = .ok (.invokevirtual 26, 3) := by decide +kernel
theorem dX5_open_7 : decode cX5_open 7 = .ok (.iload_n 1, 1) := by decide +kernel
theorem dX5_open_8 : decode cX5_open 8 = .ok (.if_icmp .ne 22, 3) := by decide +kernel
theorem dX5_open_11 : decode cX5_open 11 = .ok (.iload_n 2, 1) := by decide +kernel
theorem dX5_open_12 : decode cX5_open 12 = .ok (.iconst 4, 1) := by decide +kernel
theorem dX5_open_13 : decode cX5_open 13 = .ok (.if_icmp .lt 17, 3) := by decide +kernel
theorem dX5_open_16 : decode cX5_open 16 = .ok (.aload_n 0, 1) := by decide +kernel
theorem dX5_open_17 : decode cX5_open 17 = .ok (.getfield 12, 3) := by decide +kernel
theorem dX5_open_20 : decode cX5_open 20 = .ok (.aload_n 0, 1) := by decide +kernel
theorem dX5_open_21 : decode cX5_open 21 = .ok (.getfield 12, 3) := by decide +kernel
theorem dX5_open_24 : decode cX5_open 24 = .ok (.getfield 30, 3) := by decide +kernel
theorem dX5_open_27 : decode cX5_open 27 = .ok (.invokevirtual 34, 3) := by decide +kernel
theorem dX5_open_30 : decode cX5_open 30 = .ok (.aload_n 0, 1) := by decide +kernel
theorem dX5_open_31 : decode cX5_open 31 = .ok (.getfield 12, 3) := by decide +kernel
theorem dX5_open_34 : decode cX5_open 34 = .ok (.iload_n 1, 1) := by decide +kernel
theorem dX5_open_35 : decode cX5_open 35 = .ok (.invokevirtual 100, 3) := by decide +kernel
theorem dX5_open_38 : decode cX5_open 38 = .ok (.return_, 1) := by decide +kernel
theorem dX5_readAny_0 : decode cX5_readAny 0 = .ok (.new 154, 3) := by decide +kernel
theorem dX5_readAny_3 : decode cX5_readAny 3 = .ok (.dup, 1) := by decide +kernel
theorem dX5_readAny_4 : decode cX5_readAny 4 = .ok (.iconst 0, 1) := by decide +kernel
theorem dX5_readAny_5 : decode cX5_readAny 5 = .ok (.invokespecial 156, 3) := by decide +kernel
theorem dX5_readAny_8 : decode cX5_readAny 8 = .ok (.astore_n 2, 1) := by decide +kernel
theorem dX5_readAny_9 : decode cX5_readAny 9 = .ok (.aload_n 2, 1) := by decide +kernel
theorem dX5_readAny_10 : decode cX5_readAny 10 = .ok (.aload_n 0, 1) := by decide +kernel
theorem dX5_readAny_11 : decode cX5_readAny 11 = .ok (.iload_n 1, 1) := by decide +kernel
theorem dX5_readAny_12 : decode cX5_readAny 12 = .ok (.invokevirtual 157, 3) := by decide +kernel
theorem dX5_readAny_15 : decode cX5_readAny 15 = .ok (.invokevirtual 160, 3) := by decide +kernel
theorem dX5_readAny_18 : decode cX5_readAny 18 = .ok (.iconst 0, 1) := by decide +kernel
theorem dX5_readAny_19 : decode cX5_readAny 19 = .ok (.istore_n 3, 1) := by decide +kernel
theorem dX5_readAny_20 : decode cX5_readAny 20 = .ok (.iload_n 3, 1) := by decide +kernel
theorem dX5_readAny_21 : decode cX5_readAny 21 = .ok (.sipush 160, 3) := by decide +kernel
theorem dX5_readAny_24 : decode cX5_readAny 24 = .ok (.if_icmp .ge 39, 3) := by decide +kernel
theorem dX5_readAny_27 : decode cX5_readAny 27 = .ok (.aload_n 0, 1) := by decide +kernel
theorem dX5_readAny_28 : decode cX5_readAny 28 = .ok (.getfield 12, 3) := by decide +kernel
theorem dX5_readAny_31 : decode cX5_readAny 31 = .ok (.bipush 124, 2) := by decide +kernel
theorem dX5_readAny_33 : decode cX5_readAny 33 = .ok (.invokevirtual 70, 3) := by decide +kernel
theorem dX5_readAny_36 : decode cX5_readAny 36 = .ok (.ifCond .eq 27, 3) := by decide +kernel
theorem dX5_readAny_39 : decode cX5_readAny 39 = .ok (.aload_n 0, 1) := by decide +kernel
theorem dX5_readAny_40 : decode cX5_readAny 40 = .ok (.getfield 12, 3) := by decide +kernel
theorem dX5_readAny_43 : decode cX5_readAny 43 = .ok (.bipush 124, 2) := by decide +kernel
theorem dX5_readAny_45 : decode cX5_readAny 45 = .ok (.invokevirtual 100, 3) := by decide +kernel
theorem dX5_readAny_48 : decode cX5_readAny 48 = .ok (.aload_n 2, 1) := by decide +kernel
theorem dX5_readAny_49 : decode cX5_readAny 49 = .ok (.aload_n 0, 1) := by decide +kernel
theorem dX5_readAny_50 : decode cX5_readAny 50 = .ok (.iload_n 1, 1) := by decide +kernel
theorem dX5_readAny_51 : decode cX5_readAny 51 = .ok (.invokevirtual 157, 3) := by decide +kernel
theorem dX5_readAny_54 : decode cX5_readAny 54 = .ok (.invokevirtual 160, 3) := by decide +kernel
theorem dX5_readAny_57 : decode cX5_readAny 57 = .ok (.iinc 3 1, 3) := by decide +kernel
theorem dX5_readAny_60 : decode cX5_readAny 60 = .ok (.goto (-40), 3) := by decide +kernel
theorem dX5_readAny_63 : decode cX5_readAny 63 = .ok (.aload_n 2, 1) := by decide +kernel
theorem dX5_readAny_64 : decode cX5_readAny 64 = .ok (.areturn, 1) := by decide +kernel
theorem dX5_readAll_0 : decode cX5_readAll 0 = .ok (.new 154, 3) := by decide +kernel
theorem dX5_readAll_3 : decode cX5_readAll 3 = .ok (.dup, 1) := by decide +kernel
theorem dX5_readAll_4 : decode cX5_readAll 4 = .ok (.iconst 1, 1) := by decide +kernel
theorem dX5_readAll_5 : decode cX5_readAll 5 = .ok (.invokespecial 156, 3) := by decide +kernel
theorem dX5_readAll_8 : decode cX5_readAll 8 = .ok (.astore_n 2, 1) := by decide +kernel
theorem dX5_readAll_9 : decode cX5_readAll 9 = .ok (.aload_n 2, 1) := by decide +kernel
theorem dX5_readAll_10 : decode cX5_readAll 10 = .ok (.aload_n 0, 1) := by decide +kernel
theorem dX5_readAll_11 : decode cX5_readAll 11 = .ok (.iload_n 1, 1) := by decide +kernel
theorem dX5_readAll_12 : decode cX5_readAll 12 = .ok (.invokevirtual 163, 3) := by decide +kernel
theorem dX5_readAll_15 : decode cX5_readAll 15 = .ok (.invokevirtual 160, 3) := by decide +kernel
theorem dX5_readAll_18 : decode cX5_readAll 18 = .ok (.iconst 0, 1) := by decide +kernel
theorem dX5_readAll_19 : decode cX5_readAll 19 = .ok (.istore_n 3, 1) := by decide +kernel
theorem dX5_readAll_20 : decode cX5_readAll 20 = .ok (.iload_n 3, 1) := by decide +kernel
theorem dX5_readAll_21 : decode cX5_readAll 21 = .ok (.sipush 160, 3) := by decide +kernel
theorem dX5_readAll_24 : decode cX5_readAll 24 = .ok (.if_icmp .ge 39, 3) := by decide +kernel
theorem dX5_readAll_27 : decode cX5_readAll 27 = .ok (.aload_n 0, 1) := by decide +kernel
theorem dX5_readAll_28 : decode cX5_readAll 28 = .ok (.getfield 12, 3) := by decide +kernel
theorem dX5_readAll_31 : decode cX5_readAll 31 = .ok (.bipush 38, 2) := by decide +kernel
theorem dX5_readAll_33 : decode cX5_readAll 33 = .ok (.invokevirtual 70, 3) := by decide +kernel
theorem dX5_readAll_36 : decode cX5_readAll 36 = .ok (.ifCond .eq 27, 3) := by decide +kernel
theorem dX5_readAll_39 : decode cX5_readAll 39 = .ok (.aload_n 0, 1) := by decide +kernel
theorem dX5_readAll_40 : decode cX5_readAll 40 = .ok (.getfield 12, 3) := by decide +kernel
theorem dX5_readAll_43 : decode cX5_readAll 43 = .ok (.bipush 38, 2) := by decide +kernel
theorem dX5_readAll_45 : decode cX5_readAll 45 = .ok (.invokevirtual 100, 3) := by decide +kernel
theorem dX5_readAll_48 : decode cX5_readAll 48 = .ok (.aload_n 2, 1) := by decide +kernel
theorem dX5_readAll_49 : decode cX5_readAll 49 = .ok (.aload_n 0, 1) := by decide +kernel
theorem dX5_readAll_50 : decode cX5_readAll 50 = .ok (.iload_n 1, 1) := by decide +kernel
theorem dX5_readAll_51 : decode cX5_readAll 51 = .ok (.invokevirtual 163, 3) := by decide +kernel
theorem dX5_readAll_54 : decode cX5_readAll 54 = .ok (.invokevirtual 160, 3) := by decide +kernel
theorem dX5_readAll_57 : decode cX5_readAll 57 = .ok (.iinc 3 1, 3) := by decide +kernel
theorem dX5_readAll_60 : decode cX5_readAll 60 = .ok (.goto (-40), 3) := by decide +kernel
theorem dX5_readAll_63 : decode cX5_readAll 63 = .ok (.aload_n 2, 1) := by decide +kernel
theorem dX5_readAll_64 : decode cX5_readAll 64 = .ok (.areturn, 1) := by decide +kernel
theorem dX5_readTest_0 : decode cX5_readTest 0 = .ok (.aload_n 0, 1) := by decide +kernel
theorem dX5_readTest_1 : decode cX5_readTest 1 = .ok (.getfield 12, 3) := by decide +kernel
theorem dX5_readTest_4 : decode cX5_readTest 4 = .ok (.invokevirtual 26, 3) := by decide +kernel
theorem dX5_readTest_7 : decode cX5_readTest 7 = .ok (.bipush 33, 2) := by decide +kernel
theorem dX5_readTest_9 : decode cX5_readTest 9 = .ok (.if_icmp .ne 32, 3) := by decide +kernel
theorem dX5_readTest_12 : decode cX5_readTest 12 = .ok (.aload_n 0, 1) := by decide +kernel
theorem dX5_readTest_13 : decode cX5_readTest 13 = .ok (.bipush 33, 2) := by decide +kernel
theorem dX5_readTest_15 : decode cX5_readTest 15 = .ok (.iload_n 1, 1) := by decide +kernel
theorem dX5_readTest_16 : decode cX5_readTest 16 = .ok (.invokevirtual 112, 3) := by decide +kernel
theorem dX5_readTest_19 : decode cX5_readTest 19 = .ok (.new 154, 3) := by decide +kernel
theorem dX5_readTest_22 : decode cX5_readTest 22 = .ok (.dup, 1) := by decide +kernel
theorem dX5_readTest_23 : decode cX5_readTest 23 = .ok (.iconst 2, 1) := by decide +kernel
theorem dX5_readTest_24 : decode cX5_readTest 24 = .ok (.invokespecial 156, 3) := by decide +kernel
theorem dX5_readTest_27 : decode cX5_readTest 27 = .ok (.astore_n 2, 1) := by decide +kernel
theorem dX5_readTest_28 : decode cX5_readTest 28 = .ok (.aload_n 2, 1) := by decide +kernel
theorem dX5_readTest_29 : decode cX5_readTest 29 = .ok (.aload_n 0, 1) := by decide +kernel
theorem dX5_readTest_30 : decode cX5_readTest 30 = .ok (.iload_n 1, 1) := by decide +kernel
theorem dX5_readTest_31 : decode cX5_readTest 31 = .ok (.iconst 1, 1) := by decide +kernel
theorem dX5_readTest_32 : decode cX5_readTest 32 = .ok (.iadd, 1) := by decide +kernel
theorem dX5_readTest_33 : decode cX5_readTest 33 = .ok (.invokevirtual 163, 3) := by decide +kernel
theorem dX5_readTest_36 : decode cX5_readTest 36 = .ok (.invokevirtual 160, 3) := by decide +kernel
theorem dX5_readTest_39 : decode cX5_readTest 39 = .ok (.aload_n 2, 1) := by decide +kernel
theorem dX5_readTest_40 : decode cX5_readTest 40 = .ok (.areturn, 1) := by decide +kernel
theorem dX5_readTest_41 : decode cX5_readTest 41 = .ok (.aload_n 0, 1) := by decide +kernel
theorem dX5_readTest_42 : decode cX5_readTest 42 = .ok (.getfield 12, 3) := by decide +kernel
theorem dX5_readTest_45 : decode cX5_readTest 45 = .ok (.invokevirtual 26, 3) := by decide +kernel
theorem dX5_readTest_48 : decode cX5_readTest 48 = .ok (.bipush 40, 2) := by decide +kernel
theorem dX5_readTest_50 : decode cX5_readTest 50 = .ok (.if_icmp .ne 29, 3) := by decide +kernel
theorem dX5_readTest_53 : decode cX5_readTest 53 = .ok (.aload_n 0, 1) := by decide +kernel
theorem dX5_readTest_54 : decode cX5_readTest 54 = .ok (.bipush 40, 2) := by decide +kernel
theorem dX5_readTest_56 : decode cX5_readTest 56 = .ok (.iload_n 1, 1) := by decide +kernel
theorem dX5_readTest_57 : decode cX5_readTest 57 = .ok (.invokevirtual 112, 3) := by decide +kernel
theorem dX5_readTest_60 : decode cX5_readTest 60 = .ok (.aload_n 0, 1) := by decide +kernel
theorem dX5_readTest_61 : decode cX5_readTest 61 = .ok (.iload_n 1, 1) := by decide +kernel
theorem dX5_readTest_62 : decode cX5_readTest 62 = .ok (.iconst 1, 1) := by decide +kernel
theorem dX5_readTest_63 : decode cX5_readTest 63 = .ok (.iadd, 1) := by decide +kernel
theorem dX5_readTest_64 : decode cX5_readTest 64 = .ok (.invokevirtual 116, 3) := by decide +kernel
theorem dX5_readTest_67 : decode cX5_readTest 67 = .ok (.astore_n 2, 1) := by decide +kernel
theorem dX5_readTest_68 : decode cX5_readTest 68 = .ok (.aload_n 0, 1) := by decide +kernel
theorem dX5_readTest_69 : decode cX5_readTest 69 = .ok (.getfield 12, 3) := by decide +kernel
theorem dX5_readTest_72 : decode cX5_readTest 72 = .ok (.bipush 41, 2) := by decide +kernel
theorem dX5_readTest_74 : decode cX5_readTest 74 = .ok (.invokevirtual 100, 3) := by decide +kernel
theorem dX5_readTest_77 : decode cX5_readTest 77 = .ok (.aload_n 2, 1) := by decide +kernel
theorem dX5_readTest_78 : decode cX5_readTest 78 = .ok (.areturn, 1) := by decide +kernel
theorem dX5_readTest_79 : decode cX5_readTest 79 = .ok (.aload_n 0, 1) := by decide +kernel
theorem dX5_readTest_80 : decode cX5_readTest 80 = .ok (.invokevirtual 166, 3) := by decide +kernel
theorem dX5_readTest_83 : decode cX5_readTest 83 = .ok (.ifCond .eq 11, 3) := by decide +kernel
theorem dX5_readTest_86 : decode cX5_readTest 86 = .ok (.aload_n 0, 1) := by decide +kernel
theorem dX5_readTest_87 : decode cX5_readTest 87 = .ok (.iload_n 1, 1) := by decide +kernel
theorem dX5_readTest_88 : decode cX5_readTest 88 = .ok (.invokevirtual 169, 3) := by decide +kernel
theorem dX5_readTest_91 : decode cX5_readTest 91 = .ok (.goto 13, 3) := by decide +kernel
theorem dX5_readTest_94 : decode cX5_readTest 94 = .ok (.aload_n 0, 1) := by decide +kernel
theorem dX5_readTest_95 : decode cX5_readTest 95 = .ok (.aload_n 0, 1) := by decide +kernel
theorem dX5_readTest_96 : decode cX5_readTest 96 = .ok (.iload_n 1, 1) := by decide +kernel
theorem dX5_readTest_97 : decode cX5_readTest 97 = .ok (.invokevirtual 172, 3) := by decide +kernel
theorem dX5_readTest_100 : decode cX5_readTest 100 = .ok (.iload_n 1, 1) := by decide +kernel
theorem dX5_readTest_101 : decode cX5_readTest 101 = .ok (.invokevirtual 176, 3) := by decide +kernel
theorem dX5_readTest_104 : decode cX5_readTest 104 = .ok (.areturn, 1) := by decide +kernel
theorem dX5_readPathTest_0 : decode cX5_readPathTest 0 = .ok (.aload_n 0, 1) := by decide +kernel
theorem dX5_readPathTest_1 : decode cX5_readPathTest 1 = .ok (.getfield 12, 3) := by decide +kernel
theorem dX5_readPathTest_4 : decode cX5_readPathTest 4 = .ok (.getfield 30, 3) := by decide +kernel
theorem dX5_readPathTest_7 : decode cX5_readPathTest 7 = .ok (.istore_n 2, 1) := by decide +kernel
theorem dX5_readPathTest_8 : decode cX5_readPathTest 8 = .ok (.aload_n 0, 1) := by decide +kernel
theorem dX5_readPathTest_9 : decode cX5_readPathTest 9 = .ok (.iload_n 1, 1) := by decide +kernel
theorem dX5_readPathTest_10 : decode cX5_readPathTest 10 = .ok (.invokevirtual 38, 3) := by decide +kernel
theorem dX5_readPathTest_13 : decode cX5_readPathTest 13 = .ok (.astore_n 3, 1) := by decide +kernel
theorem dX5_readPathTest_14 : decode cX5_readPathTest 14 = .ok (.aload_n 0, 1) := by decide +kernel
theorem dX5_readPathTest_15 : decode cX5_readPathTest 15 = .ok (.invokevirtual 180, 3) := by decide +kernel
theorem dX5_readPathTest_18 : decode cX5_readPathTest 18 = .ok (.ifCond .eq 15, 3) := by decide +kernel
theorem dX5_readPathTest_21 : decode cX5_readPathTest 21 = .ok (.aload_n 0, 1) := by decide +kernel
theorem dX5_readPathTest_22 : decode cX5_readPathTest 22 = .ok (.aload_n 0, 1) := by decide +kernel
theorem dX5_readPathTest_23 : decode cX5_readPathTest 23 = .ok (.aload_n 3, 1) := by decide +kernel
theorem dX5_readPathTest_24 : decode cX5_readPathTest 24 = .ok (.iload_n 2, 1) := by decide +kernel
theorem dX5_readPathTest_25 : decode cX5_readPathTest 25 = .ok (.invokevirtual 183, 3) := by decide +kernel
theorem dX5_readPathTest_28 : decode cX5_readPathTest 28 = .ok (.iload_n 1, 1) := by decide +kernel
theorem dX5_readPathTest_29 : decode cX5_readPathTest 29 = .ok (.invokevirtual 176, 3) := by decide +kernel
theorem dX5_readPathTest_32 : decode cX5_readPathTest 32 = .ok (.areturn, 1) := by decide +kernel
theorem dX5_readPathTest_33 : decode cX5_readPathTest 33 = .ok (.new 154, 3) := by decide +kernel
theorem dX5_readPathTest_36 : decode cX5_readPathTest 36 = .ok (.dup, 1) := by decide +kernel
theorem dX5_readPathTest_37 : decode cX5_readPathTest 37 = .ok (.iconst 3, 1) := by decide +kernel
theorem dX5_readPathTest_38 : decode cX5_readPathTest 38 = .ok (.invokespecial 156, 3) := by decide +kernel
theorem dX5_readPathTest_41 : decode cX5_readPathTest 41 = .ok (.astore 4, 2) := by decide +kernel
theorem dX5_readPathTest_43 : decode cX5_readPathTest 43 = .ok (.aload 4, 2) := by decide +kernel
theorem dX5_readPathTest_45 : decode cX5_readPathTest 45 = .ok (.aload_n 3, 1) := by decide +kernel
theorem dX5_readPathTest_46 : decode cX5_readPathTest 46 = .ok (.putfield 187, 3) := by decide +kernel
theorem dX5_readPathTest_49 : decode cX5_readPathTest 49 = .ok (.aload 4, 2) := by decide +kernel
theorem dX5_readPathTest_51 : decode cX5_readPathTest 51 = .ok (.areturn, 1) := by decide +kernel
theorem dX5_readComparison_0 : decode cX5_readComparison 0 = .ok (.new 154, 3) := by decide +kernel
theorem dX5_readComparison_3 : decode cX5_readComparison 3 = .ok (.dup, 1) := by decide +kernel
theorem dX5_readComparison_4 : decode cX5_readComparison 4 = .ok (.iconst 4, 1) := by decide +kernel
theorem dX5_readComparison_5 : decode cX5_readComparison 5 = .ok (.invokespecial 156, 3) := by decide +kernel
theorem dX5_readComparison_8 : decode cX5_readComparison 8 = .ok (.astore_n 3, 1) := by decide +kernel
theorem dX5_readComparison_9 : decode cX5_readComparison 9 = .ok (.aload_n 3, 1) := by decide +kernel
theorem dX5_readComparison_10 : decode cX5_readComparison 10 = .ok (.aload_n 1, 1) := by decide +kernel
theorem dX5_readComparison_11 : decode cX5_readComparison 11 = .ok (.putfield 190, 3) := by decide +kernel
theorem dX5_readComparison_14 : decode cX5_readComparison 14 = .ok (.aload_n 3, 1) := by decide +kernel
theorem dX5_readComparison_15 : decode cX5_readComparison 15 = .ok (.aload_n 0, 1) := by decide +kernel
theorem dX5_readComparison_16 : decode cX5_readComparison 16 = .ok (.invokevirtual 194, 3) := by decide +kernel
theorem dX5_readComparison_19 : decode cX5_readComparison 19 = .ok (.putfield 198, 3) := by decide +kernel
theorem dX5_readComparison_22 : decode cX5_readComparison 22 = .ok (.aload_n 3, 1) := by decide +kernel
theorem dX5_readComparison_23 : decode cX5_readComparison 23 = .ok (.aload_n 0, 1) := by decide +kernel
theorem dX5_readComparison_24 : decode cX5_readComparison 24 = .ok (.iload_n 2, 1) := by decide +kernel
theorem dX5_readComparison_25 : decode cX5_readComparison 25 = .ok (.invokevirtual 172, 3) := by decide +kernel
theorem dX5_readComparison_28 : decode cX5_readComparison 28 = .ok (.putfield 201, 3) := by decide +kernel
theorem dX5_readComparison_31 : decode cX5_readComparison 31 = .ok (.aload_n 3, 1) := by decide +kernel
theorem dX5_readComparison_32 : decode cX5_readComparison 32 = .ok (.areturn, 1) := by decide +kernel
theorem dX5_seesRelation_0 : decode cX5_seesRelation 0 = .ok (.aload_n 0, 1) := by decide +kernel
theorem dX5_seesRelation_1 : decode cX5_seesRelation 1 = .ok (.getfield 12, 3) := by decide +kernel
theorem dX5_seesRelation_4 : decode cX5_seesRelation 4 = .ok (.invokevirtual 26, 3) := by decide +kernel
theorem dX5_seesRelation_7 : decode cX5_seesRelation 7 = .ok (.istore_n 1, 1) := by decide +kernel
theorem dX5_seesRelation_8 : decode cX5_seesRelation 8 = .ok (.iload_n 1, 1) := by decide +kernel
theorem dX5_seesRelation_9 : decode cX5_seesRelation 9 = .ok (.bipush 61, 2) := by decide +kernel
theorem dX5_seesRelation_11 : decode cX5_seesRelation 11 = .ok (.if_icmp .eq 21, 3) := by decide +kernel
theorem dX5_seesRelation_14 : decode cX5_seesRelation 14 = .ok (.iload_n 1, 1) := by decide +kernel
theorem dX5_seesRelation_15 : decode cX5_seesRelation 15 = .ok (.bipush 33, 2) := by decide +kernel
theorem dX5_seesRelation_17 : decode cX5_seesRelation 17 = .ok (.if_icmp .eq 15, 3) := by decide +kernel
theorem dX5_seesRelation_20 : decode cX5_seesRelation 20 = .ok (.iload_n 1, 1) := by decide +kernel
theorem dX5_seesRelation_21 : decode cX5_seesRelation 21 = .ok (.bipush 60, 2) := by decide +kernel
theorem dX5_seesRelation_23 : decode cX5_seesRelation 23 = .ok (.if_icmp .eq 9, 3) := by decide +kernel
theorem dX5_seesRelation_26 : decode cX5_seesRelation 26 = .ok (.iload_n 1, 1) := by decide +kernel
theorem dX5_seesRelation_27 : decode cX5_seesRelation 27 = .ok (.bipush 62, 2) := by decide +kernel
theorem dX5_seesRelation_29 : decode cX5_seesRelation 29 = .ok (.if_icmp .ne 7, 3) := by decide +kernel
theorem dX5_seesRelation_32 : decode cX5_seesRelation 32 = .ok (.iconst 1, 1) := by decide +kernel
theorem dX5_seesRelation_33 : decode cX5_seesRelation 33 = .ok (.goto 4, 3) := by decide +kernel
theorem dX5_seesRelation_36 : decode cX5_seesRelation 36 = .ok (.iconst 0, 1) := by decide +kernel
theorem dX5_seesRelation_37 : decode cX5_seesRelation 37 = .ok (.ireturn, 1) := by decide +kernel
theorem dX5_readRelation_0 : decode cX5_readRelation 0 = .ok (.aload_n 0, 1) := by decide +kernel
theorem dX5_readRelation_1 : decode cX5_readRelation 1 = .ok (.getfield 12, 3) := by decide +kernel
theorem dX5_readRelation_4 : decode cX5_readRelation 4 = .ok (.bipush 60, 2) := by decide +kernel
theorem dX5_readRelation_6 : decode cX5_readRelation 6 = .ok (.invokevirtual 70, 3) := by decide +kernel
theorem dX5_readRelation_9 : decode cX5_readRelation 9 = .ok (.ifCond .eq 21, 3) := by decide +kernel
theorem dX5_readRelation_12 : decode cX5_readRelation 12 = .ok (.aload_n 0, 1) := by decide +kernel
theorem dX5_readRelation_13 : decode cX5_readRelation 13 = .ok (.getfield 12, 3) := by decide +kernel
theorem dX5_readRelation_16 : decode cX5_readRelation 16 = .ok (.bipush 61, 2) := by decide +kernel
theorem dX5_readRelation_18 : decode cX5_readRelation 18 = .ok (.invokevirtual 70, 3) := by decide +kernel
theorem dX5_readRelation_21 : decode cX5_readRelation 21 = .ok (.ifCond .eq 7, 3) := by decide +kernel
theorem dX5_readRelation_24 : decode cX5_readRelation 24 = .ok (.iconst 3, 1) := by decide +kernel
theorem dX5_readRelation_25 : decode cX5_readRelation 25 = .ok (.goto 4, 3) := by decide +kernel
theorem dX5_readRelation_28 : decode cX5_readRelation 28 = .ok (.iconst 2, 1) := by decide +kernel
theorem dX5_readRelation_29 : decode cX5_readRelation 29 = .ok (.ireturn, 1) := by decide +kernel
theorem dX5_readRelation_30 : decode cX5_readRelation 30 = .ok (.aload_n 0, 1) := by decide +kernel
theorem dX5_readRelation_31 : decode cX5_readRelation 31 = .ok (.getfield 12, 3) := by decide +kernel
theorem dX5_readRelation_34 : decode cX5_readRelation 34 = .ok (.bipush 62, 2) := by decide +kernel
theorem dX5_readRelation_36 : decode cX5_readRelation 36 = .ok (.invokevirtual 70, 3) := by decide +kernel
theorem dX5_readRelation_39 : decode cX5_readRelation 39 = .ok (.ifCond .eq 21, 3) := by decide +kernel
theorem dX5_readRelation_42 : decode cX5_readRelation 42 = .ok (.aload_n 0, 1) := by decide +kernel
theorem dX5_readRelation_43 : decode cX5_readRelation 43 = .ok (.getfield 12, 3) := by decide +kernel
theorem dX5_readRelation_46 : decode cX5_readRelation 46 = .ok (.bipush 61, 2) := by decide +kernel
theorem dX5_readRelation_48 : decode cX5_readRelation 48 = .ok (.invokevirtual 70, 3) := by decide +kernel
theorem dX5_readRelation_51 : decode cX5_readRelation 51 = .ok (.ifCond .eq 7, 3) := by decide +kernel
theorem dX5_readRelation_54 : decode cX5_readRelation 54 = .ok (.iconst 5, 1) := by decide +kernel
theorem dX5_readRelation_55 : decode cX5_readRelation 55 = .ok (.goto 4, 3) := by decide +kernel
theorem dX5_readRelation_58 : decode cX5_readRelation 58 = .ok (.iconst 4, 1) := by decide +kernel
theorem dX5_readRelation_59 : decode cX5_readRelation 59 = .ok (.ireturn, 1) := by decide +kernel
theorem dX5_readRelation_60 : decode cX5_readRelation 60 = .ok (.aload_n 0, 1) := by decide +kernel
theorem dX5_readRelation_61 : decode cX5_readRelation 61 = .ok (.getfield 12, 3) := by decide +kernel
theorem dX5_readRelation_64 : decode cX5_readRelation 64 = .ok (.bipush 33, 2) := by decide +kernel
theorem dX5_readRelation_66 : decode cX5_readRelation 66 = .ok (.invokevirtual 70, 3) := by decide +kernel
theorem dX5_readRelation_69 : decode cX5_readRelation 69 = .ok (.istore_n 1, 1) := by decide +kernel
theorem dX5_readRelation_70 : decode cX5_readRelation 70 = .ok (.iload_n 1, 1) := by decide +kernel
theorem dX5_readRelation_71 : decode cX5_readRelation 71 = .ok (.ifCond .ne 12, 3) := by decide +kernel
theorem dX5_readRelation_74 : decode cX5_readRelation 74 = .ok (.aload_n 0, 1) := by decide +kernel
theorem dX5_readRelation_75 : decode cX5_readRelation 75 = .ok (.getfield 12, 3) := by decide +kernel
theorem dX5_readRelation_78 : decode cX5_readRelation 78 = .ok (.bipush 61, 2) := by decide +kernel
theorem dX5_readRelation_80 : decode cX5_readRelation 80 = .ok (.invokevirtual 100, 3) := by decide +kernel
theorem dX5_readRelation_83 : decode cX5_readRelation 83 = .ok (.aload_n 0, 1) := by decide +kernel
theorem dX5_readRelation_84 : decode cX5_readRelation 84 = .ok (.getfield 12, 3) := by decide +kernel
theorem dX5_readRelation_87 : decode cX5_readRelation 87 = .ok (.bipush 61, 2) := by decide +kernel
theorem dX5_readRelation_89 : decode cX5_readRelation 89 = .ok (.invokevirtual 100, 3) := by decide +kernel
theorem dX5_readRelation_92 : decode cX5_readRelation 92 = .ok (.iload_n 1, 1) := by decide +kernel
theorem dX5_readRelation_93 : decode cX5_readRelation 93 = .ok (.ifCond .eq 7, 3) := by decide +kernel
theorem dX5_readRelation_96 : decode cX5_readRelation 96 = .ok (.iconst 1, 1) := by decide +kernel
theorem dX5_readRelation_97 : decode cX5_readRelation 97 = .ok (.goto 4, 3) := by decide +kernel
theorem dX5_readRelation_100 : decode cX5_readRelation 100 = .ok (.iconst 0, 1) := by decide +kernel
theorem dX5_readRelation_101 : decode cX5_readRelation 101 = .ok (.ireturn, 1) := by decide +kernel
theorem dX5_readThing_0 : decode cX5_readThing 0 = .ok (.aload_n 0, 1) := by decide +kernel
theorem dX5_readThing_1 : decode cX5_readThing 1 = .ok (.getfield 12, 3) := by decide +kernel
theorem dX5_readThing_4 : decode cX5_readThing 4 = .ok (.invokevirtual 26, 3) := by decide +kernel
theorem dX5_readThing_7 : decode cX5_readThing 7 = .ok (.lookupswitch 72 #[(36, 41), (64, 41), (99, 66), (108, 60)], 41) := by decide +kernel
theorem dX5_readThing_48 : decode cX5_readThing 48 = .ok (.aload_n 0, 1) := by decide +kernel
theorem dX5_readThing_49 : decode cX5_readThing 49 = .ok (.getfield 12, 3) := by decide +kernel
theorem dX5_readThing_52 : decode cX5_readThing 52 = .ok (.getfield 30, 3) := by decide +kernel
theorem dX5_readThing_55 : decode cX5_readThing 55 = .ok (.istore_n 2, 1) := by decide +kernel
theorem dX5_readThing_56 : decode cX5_readThing 56 = .ok (.aload_n 0, 1) := by decide +kernel
theorem dX5_readThing_57 : decode cX5_readThing 57 = .ok (.aload_n 0, 1) := by decide +kernel
theorem dX5_readThing_58 : decode cX5_readThing 58 = .ok (.iload_n 1, 1) := by decide +kernel
theorem dX5_readThing_59 : decode cX5_readThing 59 = .ok (.invokevirtual 38, 3) := by decide +kernel
theorem dX5_readThing_62 : decode cX5_readThing 62 = .ok (.iload_n 2, 1) := by decide +kernel
theorem dX5_readThing_63 : decode cX5_readThing 63 = .ok (.invokevirtual 183, 3) := by decide +kernel
theorem dX5_readThing_66 : decode cX5_readThing 66 = .ok (.areturn, 1) := by decide +kernel
theorem dX5_readThing_67 : decode cX5_readThing 67 = .ok (.aload_n 0, 1) := by decide +kernel
theorem dX5_readThing_68 : decode cX5_readThing 68 = .ok (.iload_n 1, 1) := by decide +kernel
theorem dX5_readThing_69 : decode cX5_readThing 69 = .ok (.invokevirtual 204, 3) := by decide +kernel
theorem dX5_readThing_72 : decode cX5_readThing 72 = .ok (.areturn, 1) := by decide +kernel
theorem dX5_readThing_73 : decode cX5_readThing 73 = .ok (.aload_n 0, 1) := by decide +kernel
theorem dX5_readThing_74 : decode cX5_readThing 74 = .ok (.iload_n 1, 1) := by decide +kernel
theorem dX5_readThing_75 : decode cX5_readThing 75 = .ok (.invokevirtual 207, 3) := by decide +kernel
theorem dX5_readThing_78 : decode cX5_readThing 78 = .ok (.areturn, 1) := by decide +kernel
theorem dX5_readThing_79 : decode cX5_readThing 79 = .ok (.new 210, 3) := by decide +kernel
theorem dX5_readThing_82 : decode cX5_readThing 82 = .ok (.dup, 1) := by decide +kernel
theorem dX5_readThing_83 : decode cX5_readThing 83 = .ok (.iconst 0, 1) := by decide +kernel
theorem dX5_readThing_84 : decode cX5_readThing 84 = .ok (.invokespecial 212, 3) := by decide +kernel
theorem dX5_readThing_87 : decode cX5_readThing 87 = .ok (.astore_n 3, 1) := by decide +kernel
theorem dX5_readThing_88 : decode cX5_readThing 88 = .ok (.aload_n 0, 1) := by decide +kernel
theorem dX5_readThing_89 : decode cX5_readThing 89 = .ok (.getfield 12, 3) := by decide +kernel
theorem dX5_readThing_92 : decode cX5_readThing 92 = .ok (.aload_n 3, 1) := by decide +kernel
theorem dX5_readThing_93 : decode cX5_readThing 93 = .ok (.getfield 213, 3) := by decide +kernel
theorem dX5_readThing_96 : decode cX5_readThing 96 = .ok (.bipush 39, 2) := by decide +kernel
theorem dX5_readThing_98 : decode cX5_readThing 98 = .ok (.bipush 39, 2) := by decide +kernel
theorem dX5_readThing_100 : decode cX5_readThing 100 = .ok (.invokevirtual 217, 3) := by decide +kernel
theorem dX5_readThing_103 : decode cX5_readThing 103 = .ok (.aload_n 3, 1) := by decide +kernel
theorem dX5_readThing_104 : decode cX5_readThing 104 = .ok (.areturn, 1) := by decide +kernel
theorem dX5_thingOfPath_0 : decode cX5_thingOfPath 0 = .ok (.aload_n 1, 1) := by decide +kernel
theorem dX5_thingOfPath_1 : decode cX5_thingOfPath 1 = .ok (.getfield 221, 3) := by decide +kernel
theorem dX5_thingOfPath_4 : decode cX5_thingOfPath 4 = .ok (.ifCond .ne 11, 3) := by decide +kernel
theorem dX5_thingOfPath_7 : decode cX5_thingOfPath 7 = .ok (.aload_n 0, 1) := by decide +kernel
theorem dX5_thingOfPath_8 : decode cX5_thingOfPath 8 = .ok (.getfield 12, 3) := by decide +kernel
theorem dX5_thingOfPath_11 : decode cX5_thingOfPath 11 = .ok (.iload_n 2, 1) := by decide +kernel
theorem dX5_thingOfPath_12 : decode cX5_thingOfPath 12 = .ok (.invokevirtual 34, 3) := by decide +kernel
theorem dX5_thingOfPath_15 : decode cX5_thingOfPath 15 = .ok (.new 210, 3) := by decide +kernel
theorem dX5_thingOfPath_18 : decode cX5_thingOfPath 18 = .ok (.dup, 1) := by decide +kernel
theorem dX5_thingOfPath_19 : decode cX5_thingOfPath 19 = .ok (.iconst 1, 1) := by decide +kernel
theorem dX5_thingOfPath_20 : decode cX5_thingOfPath 20 = .ok (.invokespecial 212, 3) := by decide +kernel
theorem dX5_thingOfPath_23 : decode cX5_thingOfPath 23 = .ok (.astore_n 3, 1) := by decide +kernel
theorem dX5_thingOfPath_24 : decode cX5_thingOfPath 24 = .ok (.aload_n 3, 1) := by decide +kernel
theorem dX5_thingOfPath_25 : decode cX5_thingOfPath 25 = .ok (.aload_n 1, 1) := by decide +kernel
theorem dX5_thingOfPath_26 : decode cX5_thingOfPath 26 = .ok (.putfield 224, 3) := by decide +kernel
theorem dX5_thingOfPath_29 : decode cX5_thingOfPath 29 = .ok (.aload_n 3, 1) := by decide +kernel
theorem dX5_thingOfPath_30 : decode cX5_thingOfPath 30 = .ok (.areturn, 1) := by decide +kernel
theorem dX5_readLength_0 : decode cX5_readLength 0 = .ok (.aload_n 0, 1) := by decide +kernel
theorem dX5_readLength_1 : decode cX5_readLength 1 = .ok (.getfield 12, 3) := by decide +kernel
theorem dX5_readLength_4 : decode cX5_readLength 4 = .ok (.ldc 225, 2) := by decide +kernel
theorem dX5_readLength_6 : decode cX5_readLength 6 = .ok (.invokevirtual 227, 3) := by decide +kernel
theorem dX5_readLength_9 : decode cX5_readLength 9 = .ok (.aload_n 0, 1) := by decide +kernel
theorem dX5_readLength_10 : decode cX5_readLength 10 = .ok (.bipush 40, 2) := by decide +kernel
theorem dX5_readLength_12 : decode cX5_readLength 12 = .ok (.iload_n 1, 1) := by decide +kernel
theorem dX5_readLength_13 : decode cX5_readLength 13 = .ok (.invokevirtual 112, 3) := by decide +kernel
theorem dX5_readLength_16 : decode cX5_readLength 16 = .ok (.new 210, 3) := by decide +kernel
theorem dX5_readLength_19 : decode cX5_readLength 19 = .ok (.dup, 1) := by decide +kernel
theorem dX5_readLength_20 : decode cX5_readLength 20 = .ok (.iconst 2, 1) := by decide +kernel
theorem dX5_readLength_21 : decode cX5_readLength 21 = .ok (.invokespecial 212, 3) := by decide +kernel
theorem dX5_readLength_24 : decode cX5_readLength 24 = .ok (.astore_n 2, 1) := by decide +kernel
theorem dX5_readLength_25 : decode cX5_readLength 25 = .ok (.aload_n 2, 1) := by decide +kernel
theorem dX5_readLength_26 : decode cX5_readLength 26 = .ok (.aload_n 0, 1) := by decide +kernel
theorem dX5_readLength_27 : decode cX5_readLength 27 = .ok (.iload_n 1, 1) := by decide +kernel
theorem dX5_readLength_28 : decode cX5_readLength 28 = .ok (.iconst 1, 1) := by decide +kernel
theorem dX5_readLength_29 : decode cX5_readLength 29 = .ok (.iadd, 1) := by decide +kernel
theorem dX5_readLength_30 : decode cX5_readLength 30 = .ok (.invokevirtual 172, 3) := by decide +kernel
theorem dX5_readLength_33 : decode cX5_readLength 33 = .ok (.putfield 230, 3) := by decide +kernel
theorem dX5_readLength_36 : decode cX5_readLength 36 = .ok (.aload_n 0, 1) := by decide +kernel
theorem dX5_readLength_37 : decode cX5_readLength 37 = .ok (.getfield 12, 3) := by decide +kernel
theorem dX5_readLength_40 : decode cX5_readLength 40 = .ok (.bipush 41, 2) := by decide +kernel
theorem dX5_readLength_42 : decode cX5_readLength 42 = .ok (.invokevirtual 100, 3) := by decide +kernel
theorem dX5_readLength_45 : decode cX5_readLength 45 = .ok (.aload_n 2, 1) := by decide +kernel
theorem dX5_readLength_46 : decode cX5_readLength 46 = .ok (.areturn, 1) := by decide +kernel
theorem dX5_readCount_0 : decode cX5_readCount 0 = .ok (.aload_n 0, 1) := by decide +kernel
theorem dX5_readCount_1 : decode cX5_readCount 1 = .ok (.getfield 12, 3) := by decide +kernel
theorem dX5_readCount_4 : decode cX5_readCount 4 = .ok (.ldc 233, 2) := by decide +kernel
theorem dX5_readCount_6 : decode cX5_readCount 6 = .ok (.invokevirtual 227, 3) := by decide +kernel
theorem dX5_readCount_9 : decode cX5_readCount 9 = .ok (.aload_n 0, 1) := by decide +kernel
theorem dX5_readCount_10 : decode cX5_readCount 10 = .ok (.bipush 40, 2) := by decide +kernel
theorem dX5_readCount_12 : decode cX5_readCount 12 = .ok (.iload_n 1, 1) := by decide +kernel
theorem dX5_readCount_13 : decode cX5_readCount 13 = .ok (.invokevirtual 112, 3) := by decide +kernel
theorem dX5_readCount_16 : decode cX5_readCount 16 = .ok (.aload_n 0, 1) := by decide +kernel
theorem dX5_readCount_17 : decode cX5_readCount 17 = .ok (.invokevirtual 166, 3) := by decide +kernel
theorem dX5_readCount_20 : decode cX5_readCount 20 = .ok (.ifCond .ne 17, 3) := by decide +kernel
theorem dX5_readCount_23 : decode cX5_readCount 23 = .ok (.aload_n 0, 1) := by decide +kernel
theorem dX5_readCount_24 : decode cX5_readCount 24 = .ok (.getfield 12, 3) := by decide +kernel
theorem dX5_readCount_27 : decode cX5_readCount 27 = .ok (.aload_n 0, 1) := by decide +kernel
theorem dX5_readCount_28 : decode cX5_readCount 28 = .ok (.getfield 12, 3) := by decide +kernel
theorem dX5_readCount_31 : decode cX5_readCount 31 = .ok (.getfield 30, 3) := by decide +kernel
theorem dX5_readCount_34 : decode cX5_readCount 34 = .ok (.invokevirtual 34, 3) := by decide +kernel
theorem dX5_readCount_37 : decode cX5_readCount 37 = .ok (.new 210, 3) := by decide +kernel
theorem dX5_readCount_40 : decode cX5_readCount 40 = .ok (.dup, 1) := by decide +kernel
theorem dX5_readCount_41 : decode cX5_readCount 41 = .ok (.iconst 3, 1) := by decide +kernel
theorem dX5_readCount_42 : decode cX5_readCount 42 = .ok (.invokespecial 212, 3) := by decide +kernel
theorem dX5_readCount_45 : decode cX5_readCount 45 = .ok (.astore_n 2, 1) := by decide +kernel
theorem dX5_readCount_46 : decode cX5_readCount 46 = .ok (.aload_n 2, 1) := by decide +kernel
theorem dX5_readCount_47 : decode cX5_readCount 47 = .ok (.aload_n 0, 1) := by decide +kernel
theorem dX5_readCount_48 : decode cX5_readCount 48 = .ok (.iload_n 1, 1) := by decide +kernel
theorem dX5_readCount_49 : decode cX5_readCount 49 = .ok (.iconst 1, 1) := by decide +kernel
theorem dX5_readCount_50 : decode cX5_readCount 50 = .ok (.iadd, 1) := by decide +kernel
theorem dX5_readCount_51 : decode cX5_readCount 51 = .ok (.invokevirtual 38, 3) := by decide +kernel
theorem dX5_readCount_54 : decode cX5_readCount 54 = .ok (.putfield 224, 3) := by decide +kernel
theorem dX5_readCount_57 : decode cX5_readCount 57 = .ok (.aload_n 0, 1) := by decide +kernel
theorem dX5_readCount_58 : decode cX5_readCount 58 = .ok (.getfield 12, 3) := by decide +kernel
theorem dX5_readCount_61 : decode cX5_readCount 61 = .ok (.bipush 41, 2) := by decide +kernel
theorem dX5_readCount_63 : decode cX5_readCount 63 = .ok (.invokevirtual 100, 3) := by decide +kernel
theorem dX5_readCount_66 : decode cX5_readCount 66 = .ok (.aload_n 2, 1) := by decide +kernel
theorem dX5_readCount_67 : decode cX5_readCount 67 = .ok (.areturn, 1) := by decide +kernel
def w_X5_init (l : Launch) (G : mv_G) (d : Nat) (u0 : Nat) (h : mv_H) (Q : mv_O → mv_H → Prop) : Prop :=
  vnw h 3 (.inr (2, [.null, .int 0, .int 0])) fun a5 h5 =>
  mv_rq l G mX0_init d 0 (mv_in [.ref a5] 1) [] h5 (vU (fun E h1 => Q (.inr E) h1) (fun h9 =>
  vpu G h9 u0 7 0 (.ref a5) fun h12 =>
  vpu G h12 u0 7 1 (.null) fun h17 =>
  Q (.inl none) h17))
theorem v_X5_init {l : Launch} {G : mv_G} {d : Nat} {u0 : Nat} {h : mv_H} {Q : mv_O → mv_H → Prop} (hG : mv_ok G) (hq : w_X5_init l G d u0 h Q) : mv_rq l G mX5_init (d + 1) 0 (mv_in [.ref u0] 1) [] h Q := by
  unfold w_X5_init at hq
  show mv_rq l G mX5_init (d + 1) 0 [some (.ref u0)] [] h _
  refine q_aload_n dX5_init_0 rfl ?_
  refine q_objI dX5_init_1 ml_RX5_3 obj_in obj_co rfl (Nat.le_of_ble_eq_true rfl) ?_
  refine q_aload_n dX5_init_4 rfl ?_
  obtain ⟨a5, h5, ea5, eh5, hq⟩ := vnw_e hq
  refine q_new (fs := [.null, .int 0, .int 0]) (ci := 2) (T := TX0) (N := 3) tyX0 tyX0_ok dX5_init_5 cl_RX5_9 inst_RX0 init_RX0 uin_RX0 rfl (by decide) ?_
  rw [← eh5, ← ea5]
  show mv_rq l G mX5_init (d + 1) 8 [some (.ref u0)] [.ref a5, .ref u0] h5 _
  refine q_dup dX5_init_8 rfl ?_
  refine q_cIN (Y := mX0_init) (As := []) (st := [.ref a5, .ref u0]) (b := a5) ic_X0_init dX5_init_9 mn_RX5_11 rfl (Nat.le_of_ble_eq_true rfl) rfl (Nat.le_of_ble_eq_true rfl) hq (fun v h1 hq1 => ?_) (fun E h1 hq1 => ?_)
  rotate_left
  ·
    rcases hq1 with hq1 | ⟨E1, e1, hq1⟩
    · exact nomatch hq1.1
    · obtain rfl := Sum.inr.inj e1; exact q_xout (fun z hz => nomatch hz) hq1
  rcases hq1 with hq1 | ⟨E1, e1, hq1⟩
  rotate_left
  · exact nomatch e1
  obtain ⟨hv, hq⟩ := hq1
  obtain rfl := Sum.inl.inj hv
  clear hv
  obtain ⟨h9, eh9⟩ : ∃ z, z = h1 := ⟨_, rfl⟩
  rw [← eh9] at hq ⊢
  clear eh9
  show mv_rq l G mX5_init (d + 1) 12 [some (.ref u0)] [.ref a5, .ref u0] h9 _
  obtain ⟨fs12, h12, f12, b12, l12, e12, hq⟩ := vpu_e hq
  refine q_putF (k := 0) (T := TX5) (C0 := RX5) (N := 2) (ci := 7) (ty := (.object "TreePaths$Cursor")) tyX5 tyX5_ok nmX5 dX5_init_12 fl_RX5_12 rfl uin_RX5 (by decide) rfl rfl rfl rfl (by decide +kernel) rfl rfl b12 f12 l12 ?_
  rw [← e12]
  show mv_rq l G mX5_init (d + 1) 15 [some (.ref u0)] [] h12 _
  refine q_aload_n dX5_init_15 rfl ?_
  refine q_null dX5_init_16 ?_
  obtain ⟨fs17, h17, f17, b17, l17, e17, hq⟩ := vpu_e hq
  refine q_putf (k := 1) (T := TX5) (C0 := RX5) (N := 2) (ci := 7) (ty := (.object "TreePaths$Path")) tyX5 tyX5_ok nmX5 dX5_init_17 fl_RX5_18 rfl uin_RX5 (by decide) rfl rfl (by decide +kernel) rfl rfl b17 f17 l17 ?_
  rw [← e17]
  show mv_rq l G mX5_init (d + 1) 20 [some (.ref u0)] [] h17 _
  exact q_vret dX5_init_20 rfl hq
def w_X5_readFrom (l : Launch) (G : mv_G) (d : Nat) (u0 : Nat) (u1 : Nat) (h : mv_H) (Q : mv_O → mv_H → Prop) : Prop :=
  vgb h u0 7 0 fun x1 =>
  vob h x1 2 (
  mv_rq l G mX0_restart d 0 (mv_in [.ref x1, .ref u1] 2) [] h (vU (fun E h1 => mv_xq l G mX5_readFrom (d + 1) 5 [some (.ref u0), some (.ref u1), none] E h1 Q) (fun h5 =>
  vgb h5 u0 7 0 fun x9 =>
  vob h5 x9 2 (
  mv_rq l G mX0_look d 0 (mv_in [.ref x9] 1) [] h5 (vI (fun E h1 => mv_xq l G mX5_readFrom (d + 1) 12 [some (.ref u0), some (.ref u1), none] E h1 Q) (fun x12 h12 =>
  vif (x12 = 36) (
    mv_rq l G mX5_readFrom (d + 1) 34 [some (.ref u0), none, none] [] h12 Q) (
    vgb h12 u0 7 0 fun x21 =>
    vgb h12 u0 7 0 fun x25 =>
    vgi h12 x25 2 1 fun x28 =>
    vob h12 x21 2 (
    mv_rq l G mX0_refuse d 0 (mv_in [.ref x21, .int x28] 2) [] h12 (vU (fun E h1 => mv_xq l G mX5_readFrom (d + 1) 31 [some (.ref u0), some (.ref u1), none] E h1 Q) (fun h31 =>
    mv_rq l G mX5_readFrom (d + 1) 34 [some (.ref u0), none, none] [] h31 Q))))))))))
theorem v_X5_readFrom {l : Launch} {G : mv_G} {d : Nat} {u0 : Nat} {u1 : Nat} {h : mv_H} {Q : mv_O → mv_H → Prop} (hG : mv_ok G) (hq : w_X5_readFrom l G d u0 u1 h Q) : mv_rq l G mX5_readFrom (d + 1) 0 (mv_in [.ref u0, .ref u1] 3) [] h Q := by
  unfold w_X5_readFrom at hq
  show mv_rq l G mX5_readFrom (d + 1) 0 [some (.ref u0), some (.ref u1), none] [] h _
  refine q_aload_n dX5_readFrom_0 rfl ?_
  obtain ⟨fs1, x1, f1, g1, hq⟩ := vgb_e hq
  refine q_getf (k := 0) (T := TX5) (C0 := RX5) (N := 2) (ci := 7) dX5_readFrom_1 fl_RX5_12 rfl uin_RX5 (by decide) rfl f1 g1 ?_
  refine q_aload_n dX5_readFrom_4 rfl ?_
  obtain ⟨⟨fs5, f5⟩, hq⟩ := vob_e hq
  refine q_cV (Y := mX0_restart) (As := [.ref u1]) (st := []) (b := x1) (ci := 2) vc_X0_restart dX5_readFrom_5 ml_RX5_22 rfl f5 rfl (Nat.le_of_ble_eq_true rfl) rfl (Nat.le_of_ble_eq_true rfl) hq (fun v h1 hq1 => ?_) (fun E h1 hq1 => ?_)
  rotate_left
  ·
    rcases hq1 with hq1 | ⟨E1, e1, hq1⟩
    · exact nomatch hq1.1
    · obtain rfl := Sum.inr.inj e1; exact hq1
  rcases hq1 with hq1 | ⟨E1, e1, hq1⟩
  rotate_left
  · exact nomatch e1
  obtain ⟨hv, hq⟩ := hq1
  obtain rfl := Sum.inl.inj hv
  clear hv
  obtain ⟨h5, eh5⟩ : ∃ z, z = h1 := ⟨_, rfl⟩
  rw [← eh5] at hq ⊢
  clear eh5
  show mv_rq l G mX5_readFrom (d + 1) 8 [some (.ref u0), some (.ref u1), none] [] h5 _
  refine q_aload_n dX5_readFrom_8 rfl ?_
  obtain ⟨fs9, x9, f9, g9, hq⟩ := vgb_e hq
  refine q_getf (k := 0) (T := TX5) (C0 := RX5) (N := 2) (ci := 7) dX5_readFrom_9 fl_RX5_12 rfl uin_RX5 (by decide) rfl f9 g9 ?_
  obtain ⟨⟨fs12, f12⟩, hq⟩ := vob_e hq
  refine q_cV (Y := mX0_look) (As := []) (st := []) (b := x9) (ci := 2) vc_X0_look dX5_readFrom_12 ml_RX5_26 rfl f12 rfl (Nat.le_of_ble_eq_true rfl) rfl (Nat.le_of_ble_eq_true rfl) hq (fun v h1 hq1 => ?_) (fun E h1 hq1 => ?_)
  rotate_left
  ·
    rcases hq1 with hq1 | ⟨E1, e1, hq1⟩
    · obtain ⟨_, z, _⟩ := hq1; exact nomatch z
    · obtain rfl := Sum.inr.inj e1; exact hq1
  rcases hq1 with hq1 | ⟨E1, e1, hq1⟩
  rotate_left
  · exact nomatch e1
  obtain ⟨x12, hv, hq⟩ := hq1
  obtain rfl := Sum.inl.inj hv
  clear hv
  obtain ⟨h12, eh12⟩ : ∃ z, z = h1 := ⟨_, rfl⟩
  rw [← eh12] at hq ⊢
  clear eh12
  show mv_rq l G mX5_readFrom (d + 1) 15 [some (.ref u0), some (.ref u1), none] [.int x12] h12 _
  refine q_bipush (v := 36) dX5_readFrom_15 (by decide) ?_
  refine q_icmp_eq (tgt := 34) dX5_readFrom_17 (by decide) (fun c17 => ?_) (fun c17 => ?_)
  ·
    have hq := vif_t hq c17
    exact mv_weak (A := [some (.ref u0), none, none]) (by repeat' constructor) hq
  ·
    have hq := vif_f hq c17
    refine q_aload_n dX5_readFrom_20 rfl ?_
    obtain ⟨fs21, x21, f21, g21, hq⟩ := vgb_e hq
    refine q_getf (k := 0) (T := TX5) (C0 := RX5) (N := 2) (ci := 7) dX5_readFrom_21 fl_RX5_12 rfl uin_RX5 (by decide) rfl f21 g21 ?_
    refine q_aload_n dX5_readFrom_24 rfl ?_
    obtain ⟨fs25, x25, f25, g25, hq⟩ := vgb_e hq
    refine q_getf (k := 0) (T := TX5) (C0 := RX5) (N := 2) (ci := 7) dX5_readFrom_25 fl_RX5_12 rfl uin_RX5 (by decide) rfl f25 g25 ?_
    obtain ⟨fs28, x28, f28, g28, hq⟩ := vgi_e hq
    refine q_getf (k := 1) (T := TX0) (C0 := RX0) (N := 3) (ci := 2) dX5_readFrom_28 fl_RX5_30 rfl uin_RX0 (by decide) rfl f28 g28 ?_
    obtain ⟨⟨fs31, f31⟩, hq⟩ := vob_e hq
    refine q_cV (Y := mX0_refuse) (As := [.int x28]) (st := []) (b := x21) (ci := 2) vc_X0_refuse dX5_readFrom_31 ml_RX5_34 rfl f31 rfl (Nat.le_of_ble_eq_true rfl) rfl (Nat.le_of_ble_eq_true rfl) hq (fun v h1 hq1 => ?_) (fun E h1 hq1 => ?_)
    rotate_left
    ·
      rcases hq1 with hq1 | ⟨E1, e1, hq1⟩
      · exact nomatch hq1.1
      · obtain rfl := Sum.inr.inj e1; exact hq1
    rcases hq1 with hq1 | ⟨E1, e1, hq1⟩
    rotate_left
    · exact nomatch e1
    obtain ⟨hv, hq⟩ := hq1
    obtain rfl := Sum.inl.inj hv
    clear hv
    obtain ⟨h31, eh31⟩ : ∃ z, z = h1 := ⟨_, rfl⟩
    rw [← eh31] at hq ⊢
    clear eh31
    show mv_rq l G mX5_readFrom (d + 1) 34 [some (.ref u0), some (.ref u1), none] [] h31 _
    exact mv_weak (A := [some (.ref u0), none, none]) (by repeat' constructor) hq
def w_X5_readFrom_34 (l : Launch) (G : mv_G) (d : Nat) (u0 : Nat) (h : mv_H) (Q : mv_O → mv_H → Prop) : Prop :=
  vob h u0 7 (
  mv_rq l G mX5_readPath d 0 (mv_in [.ref u0, .int 0] 4) [] h (vB (fun E h1 => mv_xq l G mX5_readFrom (d + 1) 36 [some (.ref u0), none, none] E h1 Q) (fun x36 h36 =>
  vgb h36 u0 7 0 fun x41 =>
  vob h36 x41 2 (
  mv_rq l G mX0_expectEnd d 0 (mv_in [.ref x41] 1) [] h36 (vU (fun E h1 => mv_xq l G mX5_readFrom (d + 1) 44 [some (.ref u0), none, some (.ref x36)] E h1 Q) (fun h44 =>
  vpu G h44 u0 7 1 (.ref x36) fun h49 =>
  Q (.inl (some (.int (-1)))) h49))))))
theorem v_X5_readFrom_34 {l : Launch} {G : mv_G} {d : Nat} {u0 : Nat} {h : mv_H} {Q : mv_O → mv_H → Prop} (hG : mv_ok G) (hq : w_X5_readFrom_34 l G d u0 h Q) : mv_rq l G mX5_readFrom (d + 1) 34 [some (.ref u0), none, none] [] h Q := by
  unfold w_X5_readFrom_34 at hq
  refine q_aload_n dX5_readFrom_34 rfl ?_
  refine q_iconst (v := 0) dX5_readFrom_35 (by decide) ?_
  obtain ⟨⟨fs36, f36⟩, hq⟩ := vob_e hq
  refine q_cV (Y := mX5_readPath) (As := [.int 0]) (st := []) (b := u0) (ci := 7) vc_X5_readPath dX5_readFrom_36 ml_RX5_38 rfl f36 rfl (Nat.le_of_ble_eq_true rfl) rfl (Nat.le_of_ble_eq_true rfl) hq (fun v h1 hq1 => ?_) (fun E h1 hq1 => ?_)
  rotate_left
  ·
    rcases hq1 with hq1 | ⟨E1, e1, hq1⟩
    · obtain ⟨_, z, _⟩ := hq1; exact nomatch z
    · obtain rfl := Sum.inr.inj e1; exact hq1
  rcases hq1 with hq1 | ⟨E1, e1, hq1⟩
  rotate_left
  · exact nomatch e1
  obtain ⟨x36, hv, hq⟩ := hq1
  obtain rfl := Sum.inl.inj hv
  clear hv
  obtain ⟨h36, eh36⟩ : ∃ z, z = h1 := ⟨_, rfl⟩
  rw [← eh36] at hq ⊢
  clear eh36
  show mv_rq l G mX5_readFrom (d + 1) 39 [some (.ref u0), none, none] [.ref x36] h36 _
  refine q_astore_n dX5_readFrom_39 (Nat.le_of_ble_eq_true rfl) rfl ?_
  show mv_rq l G mX5_readFrom (d + 1) 40 [some (.ref u0), none, some (.ref x36)] [] h36 _
  refine q_aload_n dX5_readFrom_40 rfl ?_
  obtain ⟨fs41, x41, f41, g41, hq⟩ := vgb_e hq
  refine q_getf (k := 0) (T := TX5) (C0 := RX5) (N := 2) (ci := 7) dX5_readFrom_41 fl_RX5_12 rfl uin_RX5 (by decide) rfl f41 g41 ?_
  obtain ⟨⟨fs44, f44⟩, hq⟩ := vob_e hq
  refine q_cV (Y := mX0_expectEnd) (As := []) (st := []) (b := x41) (ci := 2) vc_X0_expectEnd dX5_readFrom_44 ml_RX5_42 rfl f44 rfl (Nat.le_of_ble_eq_true rfl) rfl (Nat.le_of_ble_eq_true rfl) hq (fun v h1 hq1 => ?_) (fun E h1 hq1 => ?_)
  rotate_left
  ·
    rcases hq1 with hq1 | ⟨E1, e1, hq1⟩
    · exact nomatch hq1.1
    · obtain rfl := Sum.inr.inj e1; exact hq1
  rcases hq1 with hq1 | ⟨E1, e1, hq1⟩
  rotate_left
  · exact nomatch e1
  obtain ⟨hv, hq⟩ := hq1
  obtain rfl := Sum.inl.inj hv
  clear hv
  obtain ⟨h44, eh44⟩ : ∃ z, z = h1 := ⟨_, rfl⟩
  rw [← eh44] at hq ⊢
  clear eh44
  show mv_rq l G mX5_readFrom (d + 1) 47 [some (.ref u0), none, some (.ref x36)] [] h44 _
  refine q_aload_n dX5_readFrom_47 rfl ?_
  refine q_aload_n dX5_readFrom_48 rfl ?_
  obtain ⟨fs49, h49, f49, b49, l49, e49, hq⟩ := vpu_e hq
  refine q_putf (k := 1) (T := TX5) (C0 := RX5) (N := 2) (ci := 7) (ty := (.object "TreePaths$Path")) tyX5 tyX5_ok nmX5 dX5_readFrom_49 fl_RX5_18 rfl uin_RX5 (by decide) rfl rfl (by decide +kernel) rfl rfl b49 f49 l49 ?_
  rw [← e49]
  show mv_rq l G mX5_readFrom (d + 1) 52 [some (.ref u0), none, some (.ref x36)] [] h49 _
  refine q_goto (tgt := 64) dX5_readFrom_52 (by decide) ?_
  refine q_iconst (v := (-1)) dX5_readFrom_64 (by decide) ?_
  exact q_iret (ty := .int) dX5_readFrom_65 rfl rfl hq
def w_X5_readPath (l : Launch) (G : mv_G) (d : Nat) (u0 : Nat) (u1 : Int32) (h : mv_H) (Q : mv_O → mv_H → Prop) : Prop :=
  vnw h 5 (.inr (6, [.int 0, .null, .null, .int 0, .int 0])) fun a0 h0 =>
  vgb h0 u0 7 0 fun x5 =>
  vob h0 x5 2 (
  mv_rq l G mX0_look d 0 (mv_in [.ref x5] 1) [] h0 (vI (fun E h1 => Q (.inr E) h1) (fun x8 h8 =>
  vif (x8 = 36) (
    mv_rq l G mX5_readPath (d + 1) 21 [some (.ref u0), some (.int u1), none, none] [.int 1, .ref a0, .ref a0] h8 Q) (
    mv_rq l G mX5_readPath (d + 1) 21 [some (.ref u0), some (.int u1), none, none] [.int 0, .ref a0, .ref a0] h8 Q))))
theorem v_X5_readPath {l : Launch} {G : mv_G} {d : Nat} {u0 : Nat} {u1 : Int32} {h : mv_H} {Q : mv_O → mv_H → Prop} (hG : mv_ok G) (hq : w_X5_readPath l G d u0 u1 h Q) : mv_rq l G mX5_readPath (d + 1) 0 (mv_in [.ref u0, .int u1] 4) [] h Q := by
  unfold w_X5_readPath at hq
  show mv_rq l G mX5_readPath (d + 1) 0 [some (.ref u0), some (.int u1), none, none] [] h _
  obtain ⟨a0, h0, ea0, eh0, hq⟩ := vnw_e hq
  refine q_new (fs := [.int 0, .null, .null, .int 0, .int 0]) (ci := 6) (T := TX4) (N := 5) tyX4 tyX4_ok dX5_readPath_0 cl_RX5_50 inst_RX4 init_RX4 uin_RX4 rfl (by decide) ?_
  rw [← eh0, ← ea0]
  show mv_rq l G mX5_readPath (d + 1) 3 [some (.ref u0), some (.int u1), none, none] [.ref a0] h0 _
  refine q_dup dX5_readPath_3 rfl ?_
  refine q_aload_n dX5_readPath_4 rfl ?_
  obtain ⟨fs5, x5, f5, g5, hq⟩ := vgb_e hq
  refine q_getf (k := 0) (T := TX5) (C0 := RX5) (N := 2) (ci := 7) dX5_readPath_5 fl_RX5_12 rfl uin_RX5 (by decide) rfl f5 g5 ?_
  obtain ⟨⟨fs8, f8⟩, hq⟩ := vob_e hq
  refine q_cV (Y := mX0_look) (As := []) (st := [.ref a0, .ref a0]) (b := x5) (ci := 2) vc_X0_look dX5_readPath_8 ml_RX5_26 rfl f8 rfl (Nat.le_of_ble_eq_true rfl) rfl (Nat.le_of_ble_eq_true rfl) hq (fun v h1 hq1 => ?_) (fun E h1 hq1 => ?_)
  rotate_left
  ·
    rcases hq1 with hq1 | ⟨E1, e1, hq1⟩
    · obtain ⟨_, z, _⟩ := hq1; exact nomatch z
    · obtain rfl := Sum.inr.inj e1; exact q_xout (fun z hz => nomatch hz) hq1
  rcases hq1 with hq1 | ⟨E1, e1, hq1⟩
  rotate_left
  · exact nomatch e1
  obtain ⟨x8, hv, hq⟩ := hq1
  obtain rfl := Sum.inl.inj hv
  clear hv
  obtain ⟨h8, eh8⟩ : ∃ z, z = h1 := ⟨_, rfl⟩
  rw [← eh8] at hq ⊢
  clear eh8
  show mv_rq l G mX5_readPath (d + 1) 11 [some (.ref u0), some (.int u1), none, none] [.int x8, .ref a0, .ref a0] h8 _
  refine q_bipush (v := 36) dX5_readPath_11 (by decide) ?_
  refine q_icmp_ne (tgt := 20) dX5_readPath_13 (by decide) (fun c13 => ?_) (fun c13 => ?_)
  ·
    have hq := vif_f hq c13
    refine q_iconst (v := 0) dX5_readPath_20 (by decide) ?_
    exact mv_weak (A := [some (.ref u0), some (.int u1), none, none]) (by repeat' constructor) hq
  ·
    have hq := vif_t hq c13
    refine q_iconst (v := 1) dX5_readPath_16 (by decide) ?_
    refine q_goto (tgt := 21) dX5_readPath_17 (by decide) ?_
    exact mv_weak (A := [some (.ref u0), some (.int u1), none, none]) (by repeat' constructor) hq
def w_X5_readPath_21 (l : Launch) (G : mv_G) (d : Nat) (u0 : Nat) (u1 : Int32) (w0 : Int32) (w1 : Nat) (w2 : Nat) (h : mv_H) (Q : mv_O → mv_H → Prop) : Prop :=
  mv_rq l G mX4_init d 0 (mv_in [.ref w1, .int w0] 2) [] h (vU (fun E h1 => Q (.inr E) h1) (fun h21 =>
  vgb h21 u0 7 0 fun x26 =>
  vob h21 x26 2 (
  mv_rq l G mX0_skip d 0 (mv_in [.ref x26] 1) [] h21 (vU (fun E h1 => Q (.inr E) h1) (fun h29 =>
  mv_rq l G mX5_readPath (d + 1) 34 [some (.ref u0), some (.int u1), some (.ref w2), some (.int 0)] [] h29 Q)))))
theorem v_X5_readPath_21 {l : Launch} {G : mv_G} {d : Nat} {u0 : Nat} {u1 : Int32} {w0 : Int32} {w1 : Nat} {w2 : Nat} {h : mv_H} {Q : mv_O → mv_H → Prop} (hG : mv_ok G) (hq : w_X5_readPath_21 l G d u0 u1 w0 w1 w2 h Q) : mv_rq l G mX5_readPath (d + 1) 21 [some (.ref u0), some (.int u1), none, none] [.int w0, .ref w1, .ref w2] h Q := by
  unfold w_X5_readPath_21 at hq
  refine q_cI (Y := mX4_init) (As := [.int w0]) (st := [.ref w2]) (b := w1) ic_X4_init dX5_readPath_21 ml_RX5_52 rfl (Nat.le_of_ble_eq_true rfl) rfl (Nat.le_of_ble_eq_true rfl) hq (fun v h1 hq1 => ?_) (fun E h1 hq1 => ?_)
  rotate_left
  ·
    rcases hq1 with hq1 | ⟨E1, e1, hq1⟩
    · exact nomatch hq1.1
    · obtain rfl := Sum.inr.inj e1; exact q_xout (fun z hz => nomatch hz) hq1
  rcases hq1 with hq1 | ⟨E1, e1, hq1⟩
  rotate_left
  · exact nomatch e1
  obtain ⟨hv, hq⟩ := hq1
  obtain rfl := Sum.inl.inj hv
  clear hv
  obtain ⟨h21, eh21⟩ : ∃ z, z = h1 := ⟨_, rfl⟩
  rw [← eh21] at hq ⊢
  clear eh21
  show mv_rq l G mX5_readPath (d + 1) 24 [some (.ref u0), some (.int u1), none, none] [.ref w2] h21 _
  refine q_astore_n dX5_readPath_24 (Nat.le_of_ble_eq_true rfl) rfl ?_
  show mv_rq l G mX5_readPath (d + 1) 25 [some (.ref u0), some (.int u1), some (.ref w2), none] [] h21 _
  refine q_aload_n dX5_readPath_25 rfl ?_
  obtain ⟨fs26, x26, f26, g26, hq⟩ := vgb_e hq
  refine q_getf (k := 0) (T := TX5) (C0 := RX5) (N := 2) (ci := 7) dX5_readPath_26 fl_RX5_12 rfl uin_RX5 (by decide) rfl f26 g26 ?_
  obtain ⟨⟨fs29, f29⟩, hq⟩ := vob_e hq
  refine q_cV (Y := mX0_skip) (As := []) (st := []) (b := x26) (ci := 2) vc_X0_skip dX5_readPath_29 ml_RX5_55 rfl f29 rfl (Nat.le_of_ble_eq_true rfl) rfl (Nat.le_of_ble_eq_true rfl) hq (fun v h1 hq1 => ?_) (fun E h1 hq1 => ?_)
  rotate_left
  ·
    rcases hq1 with hq1 | ⟨E1, e1, hq1⟩
    · exact nomatch hq1.1
    · obtain rfl := Sum.inr.inj e1; exact q_xout (fun z hz => nomatch hz) hq1
  rcases hq1 with hq1 | ⟨E1, e1, hq1⟩
  rotate_left
  · exact nomatch e1
  obtain ⟨hv, hq⟩ := hq1
  obtain rfl := Sum.inl.inj hv
  clear hv
  obtain ⟨h29, eh29⟩ : ∃ z, z = h1 := ⟨_, rfl⟩
  rw [← eh29] at hq ⊢
  clear eh29
  show mv_rq l G mX5_readPath (d + 1) 32 [some (.ref u0), some (.int u1), some (.ref w2), none] [] h29 _
  refine q_iconst (v := 0) dX5_readPath_32 (by decide) ?_
  refine q_istore_n dX5_readPath_33 (Nat.le_of_ble_eq_true rfl) rfl ?_
  show mv_rq l G mX5_readPath (d + 1) 34 [some (.ref u0), some (.int u1), some (.ref w2), some (.int 0)] [] h29 _
  exact mv_weak (A := [some (.ref u0), some (.int u1), some (.ref w2), some (.int 0)]) (by repeat' constructor) hq
def w_X5_readPath_34 (l : Launch) (G : mv_G) (d : Nat) (u0 : Nat) (u1 : Int32) (u2 : Nat) (u3 : Int32) (h : mv_H) (Q : mv_O → mv_H → Prop) : Prop :=
  vif (160 ≤ u3) (
    Q (.inl (some (.ref u2))) h) (
    vob h u0 7 (
    mv_rq l G mX5_seesSegment d 0 (mv_in [.ref u0] 1) [] h (vI (fun E h1 => Q (.inr E) h1) (fun x42 h42 =>
    vif (x42 = 0) (
      Q (.inl (some (.ref u2))) h42) (
      vob h42 u0 7 (
      mv_rq l G mX5_readSegment d 0 (mv_in [.ref u0, .int u1] 5) [] h42 (vB (fun E h1 => Q (.inr E) h1) (fun x51 h51 =>
      vob h51 u2 6 (
      mv_rq l G mX4_add d 0 (mv_in [.ref u2, .ref x51] 2) [] h51 (vU (fun E h1 => Q (.inr E) h1) (fun h54 =>
      mv_rq l G mX5_readPath (d + 1) 34 [some (.ref u0), some (.int u1), some (.ref u2), some (.int (u3 + 1))] [] h54 Q)))))))))))
theorem v_X5_readPath_34 {l : Launch} {G : mv_G} {d : Nat} {u0 : Nat} {u1 : Int32} {u2 : Nat} {u3 : Int32} {h : mv_H} {Q : mv_O → mv_H → Prop} (hG : mv_ok G) (hq : w_X5_readPath_34 l G d u0 u1 u2 u3 h Q) : mv_rq l G mX5_readPath (d + 1) 34 [some (.ref u0), some (.int u1), some (.ref u2), some (.int u3)] [] h Q := by
  unfold w_X5_readPath_34 at hq
  refine q_iload_n dX5_readPath_34 rfl ?_
  refine q_sipush (v := 160) dX5_readPath_35 (by decide) ?_
  refine q_icmp_ge (tgt := 63) dX5_readPath_38 (by decide) (fun c38 => ?_) (fun c38 => ?_)
  ·
    have hq := vif_t hq c38
    refine q_aload_n dX5_readPath_63 rfl ?_
    exact q_aret (rt := (.object "TreePaths$Path")) dX5_readPath_64 rfl (Or.inl ⟨_, rfl⟩) (Or.inr ⟨_, rfl⟩) hq
  ·
    have hq := vif_f hq c38
    refine q_aload_n dX5_readPath_41 rfl ?_
    obtain ⟨⟨fs42, f42⟩, hq⟩ := vob_e hq
    refine q_cV (Y := mX5_seesSegment) (As := []) (st := []) (b := u0) (ci := 7) vc_X5_seesSegment dX5_readPath_42 ml_RX5_58 rfl f42 rfl (Nat.le_of_ble_eq_true rfl) rfl (Nat.le_of_ble_eq_true rfl) hq (fun v h1 hq1 => ?_) (fun E h1 hq1 => ?_)
    rotate_left
    ·
      rcases hq1 with hq1 | ⟨E1, e1, hq1⟩
      · obtain ⟨_, z, _⟩ := hq1; exact nomatch z
      · obtain rfl := Sum.inr.inj e1; exact q_xout (fun z hz => nomatch hz) hq1
    rcases hq1 with hq1 | ⟨E1, e1, hq1⟩
    rotate_left
    · exact nomatch e1
    obtain ⟨x42, hv, hq⟩ := hq1
    obtain rfl := Sum.inl.inj hv
    clear hv
    obtain ⟨h42, eh42⟩ : ∃ z, z = h1 := ⟨_, rfl⟩
    rw [← eh42] at hq ⊢
    clear eh42
    show mv_rq l G mX5_readPath (d + 1) 45 [some (.ref u0), some (.int u1), some (.ref u2), some (.int u3)] [.int x42] h42 _
    refine q_if_eq (tgt := 63) dX5_readPath_45 (by decide) (fun c45 => ?_) (fun c45 => ?_)
    ·
      have hq := vif_t hq c45
      refine q_aload_n dX5_readPath_63 rfl ?_
      exact q_aret (rt := (.object "TreePaths$Path")) dX5_readPath_64 rfl (Or.inl ⟨_, rfl⟩) (Or.inr ⟨_, rfl⟩) hq
    ·
      have hq := vif_f hq c45
      refine q_aload_n dX5_readPath_48 rfl ?_
      refine q_aload_n dX5_readPath_49 rfl ?_
      refine q_iload_n dX5_readPath_50 rfl ?_
      obtain ⟨⟨fs51, f51⟩, hq⟩ := vob_e hq
      refine q_cV (Y := mX5_readSegment) (As := [.int u1]) (st := [.ref u2]) (b := u0) (ci := 7) vc_X5_readSegment dX5_readPath_51 ml_RX5_62 rfl f51 rfl (Nat.le_of_ble_eq_true rfl) rfl (Nat.le_of_ble_eq_true rfl) hq (fun v h1 hq1 => ?_) (fun E h1 hq1 => ?_)
      rotate_left
      ·
        rcases hq1 with hq1 | ⟨E1, e1, hq1⟩
        · obtain ⟨_, z, _⟩ := hq1; exact nomatch z
        · obtain rfl := Sum.inr.inj e1; exact q_xout (fun z hz => nomatch hz) hq1
      rcases hq1 with hq1 | ⟨E1, e1, hq1⟩
      rotate_left
      · exact nomatch e1
      obtain ⟨x51, hv, hq⟩ := hq1
      obtain rfl := Sum.inl.inj hv
      clear hv
      obtain ⟨h51, eh51⟩ : ∃ z, z = h1 := ⟨_, rfl⟩
      rw [← eh51] at hq ⊢
      clear eh51
      show mv_rq l G mX5_readPath (d + 1) 54 [some (.ref u0), some (.int u1), some (.ref u2), some (.int u3)] [.ref x51, .ref u2] h51 _
      obtain ⟨⟨fs54, f54⟩, hq⟩ := vob_e hq
      refine q_cV (Y := mX4_add) (As := [.ref x51]) (st := []) (b := u2) (ci := 6) vc_X4_add dX5_readPath_54 ml_RX5_66 rfl f54 rfl (Nat.le_of_ble_eq_true rfl) rfl (Nat.le_of_ble_eq_true rfl) hq (fun v h1 hq1 => ?_) (fun E h1 hq1 => ?_)
      rotate_left
      ·
        rcases hq1 with hq1 | ⟨E1, e1, hq1⟩
        · exact nomatch hq1.1
        · obtain rfl := Sum.inr.inj e1; exact q_xout (fun z hz => nomatch hz) hq1
      rcases hq1 with hq1 | ⟨E1, e1, hq1⟩
      rotate_left
      · exact nomatch e1
      obtain ⟨hv, hq⟩ := hq1
      obtain rfl := Sum.inl.inj hv
      clear hv
      obtain ⟨h54, eh54⟩ : ∃ z, z = h1 := ⟨_, rfl⟩
      rw [← eh54] at hq ⊢
      clear eh54
      show mv_rq l G mX5_readPath (d + 1) 57 [some (.ref u0), some (.int u1), some (.ref u2), some (.int u3)] [] h54 _
      refine q_iinc dX5_readPath_57 rfl rfl ?_
      show mv_rq l G mX5_readPath (d + 1) 60 [some (.ref u0), some (.int u1), some (.ref u2), some (.int (u3 + 1))] [] h54 _
      refine q_goto (tgt := 34) dX5_readPath_60 (by decide) ?_
      exact mv_weak (A := [some (.ref u0), some (.int u1), some (.ref u2), some (.int (u3 + 1))]) (by repeat' constructor) hq
def w_X5_seesPath (l : Launch) (G : mv_G) (d : Nat) (u0 : Nat) (h : mv_H) (Q : mv_O → mv_H → Prop) : Prop :=
  vgb h u0 7 0 fun x1 =>
  vob h x1 2 (
  mv_rq l G mX0_look d 0 (mv_in [.ref x1] 1) [] h (vI (fun E h1 => Q (.inr E) h1) (fun x4 h4 =>
  vif (x4 = 64) (
    Q (.inl (some (.int 1))) h4) (
    vgb h4 u0 7 0 fun x13 =>
    vob h4 x13 2 (
    mv_rq l G mX0_look d 0 (mv_in [.ref x13] 1) [] h4 (vI (fun E h1 => Q (.inr E) h1) (fun x16 h16 =>
    vif (x16 = 36) (
      Q (.inl (some (.int 1))) h16) (
      Q (.inl (some (.int 0))) h16))))))))
theorem v_X5_seesPath {l : Launch} {G : mv_G} {d : Nat} {u0 : Nat} {h : mv_H} {Q : mv_O → mv_H → Prop} (hG : mv_ok G) (hq : w_X5_seesPath l G d u0 h Q) : mv_rq l G mX5_seesPath (d + 1) 0 (mv_in [.ref u0] 1) [] h Q := by
  unfold w_X5_seesPath at hq
  show mv_rq l G mX5_seesPath (d + 1) 0 [some (.ref u0)] [] h _
  refine q_aload_n dX5_seesPath_0 rfl ?_
  obtain ⟨fs1, x1, f1, g1, hq⟩ := vgb_e hq
  refine q_getf (k := 0) (T := TX5) (C0 := RX5) (N := 2) (ci := 7) dX5_seesPath_1 fl_RX5_12 rfl uin_RX5 (by decide) rfl f1 g1 ?_
  obtain ⟨⟨fs4, f4⟩, hq⟩ := vob_e hq
  refine q_cV (Y := mX0_look) (As := []) (st := []) (b := x1) (ci := 2) vc_X0_look dX5_seesPath_4 ml_RX5_26 rfl f4 rfl (Nat.le_of_ble_eq_true rfl) rfl (Nat.le_of_ble_eq_true rfl) hq (fun v h1 hq1 => ?_) (fun E h1 hq1 => ?_)
  rotate_left
  ·
    rcases hq1 with hq1 | ⟨E1, e1, hq1⟩
    · obtain ⟨_, z, _⟩ := hq1; exact nomatch z
    · obtain rfl := Sum.inr.inj e1; exact q_xout (fun z hz => nomatch hz) hq1
  rcases hq1 with hq1 | ⟨E1, e1, hq1⟩
  rotate_left
  · exact nomatch e1
  obtain ⟨x4, hv, hq⟩ := hq1
  obtain rfl := Sum.inl.inj hv
  clear hv
  obtain ⟨h4, eh4⟩ : ∃ z, z = h1 := ⟨_, rfl⟩
  rw [← eh4] at hq ⊢
  clear eh4
  show mv_rq l G mX5_seesPath (d + 1) 7 [some (.ref u0)] [.int x4] h4 _
  refine q_bipush (v := 64) dX5_seesPath_7 (by decide) ?_
  refine q_icmp_eq (tgt := 24) dX5_seesPath_9 (by decide) (fun c9 => ?_) (fun c9 => ?_)
  ·
    have hq := vif_t hq c9
    refine q_iconst (v := 1) dX5_seesPath_24 (by decide) ?_
    refine q_goto (tgt := 29) dX5_seesPath_25 (by decide) ?_
    exact q_iret (ty := .boolean) dX5_seesPath_29 rfl rfl hq
  ·
    have hq := vif_f hq c9
    refine q_aload_n dX5_seesPath_12 rfl ?_
    obtain ⟨fs13, x13, f13, g13, hq⟩ := vgb_e hq
    refine q_getf (k := 0) (T := TX5) (C0 := RX5) (N := 2) (ci := 7) dX5_seesPath_13 fl_RX5_12 rfl uin_RX5 (by decide) rfl f13 g13 ?_
    obtain ⟨⟨fs16, f16⟩, hq⟩ := vob_e hq
    refine q_cV (Y := mX0_look) (As := []) (st := []) (b := x13) (ci := 2) vc_X0_look dX5_seesPath_16 ml_RX5_26 rfl f16 rfl (Nat.le_of_ble_eq_true rfl) rfl (Nat.le_of_ble_eq_true rfl) hq (fun v h1 hq1 => ?_) (fun E h1 hq1 => ?_)
    rotate_left
    ·
      rcases hq1 with hq1 | ⟨E1, e1, hq1⟩
      · obtain ⟨_, z, _⟩ := hq1; exact nomatch z
      · obtain rfl := Sum.inr.inj e1; exact q_xout (fun z hz => nomatch hz) hq1
    rcases hq1 with hq1 | ⟨E1, e1, hq1⟩
    rotate_left
    · exact nomatch e1
    obtain ⟨x16, hv, hq⟩ := hq1
    obtain rfl := Sum.inl.inj hv
    clear hv
    obtain ⟨h16, eh16⟩ : ∃ z, z = h1 := ⟨_, rfl⟩
    rw [← eh16] at hq ⊢
    clear eh16
    show mv_rq l G mX5_seesPath (d + 1) 19 [some (.ref u0)] [.int x16] h16 _
    refine q_bipush (v := 36) dX5_seesPath_19 (by decide) ?_
    refine q_icmp_ne (tgt := 28) dX5_seesPath_21 (by decide) (fun c21 => ?_) (fun c21 => ?_)
    ·
      have hq := vif_f hq c21
      refine q_iconst (v := 0) dX5_seesPath_28 (by decide) ?_
      exact q_iret (ty := .boolean) dX5_seesPath_29 rfl rfl hq
    ·
      have hq := vif_t hq c21
      refine q_iconst (v := 1) dX5_seesPath_24 (by decide) ?_
      refine q_goto (tgt := 29) dX5_seesPath_25 (by decide) ?_
      exact q_iret (ty := .boolean) dX5_seesPath_29 rfl rfl hq
def w_X5_seesSegment (l : Launch) (G : mv_G) (d : Nat) (u0 : Nat) (h : mv_H) (Q : mv_O → mv_H → Prop) : Prop :=
  vgb h u0 7 0 fun x1 =>
  vob h x1 2 (
  mv_rq l G mX0_look d 0 (mv_in [.ref x1] 1) [] h (vI (fun E h1 => Q (.inr E) h1) (fun x4 h4 =>
  vif (x4 = 46) (
    Q (.inl (some (.int 1))) h4) (
    vgb h4 u0 7 0 fun x13 =>
    vob h4 x13 2 (
    mv_rq l G mX0_look d 0 (mv_in [.ref x13] 1) [] h4 (vI (fun E h1 => Q (.inr E) h1) (fun x16 h16 =>
    vif (x16 = 91) (
      Q (.inl (some (.int 1))) h16) (
      Q (.inl (some (.int 0))) h16))))))))
theorem v_X5_seesSegment {l : Launch} {G : mv_G} {d : Nat} {u0 : Nat} {h : mv_H} {Q : mv_O → mv_H → Prop} (hG : mv_ok G) (hq : w_X5_seesSegment l G d u0 h Q) : mv_rq l G mX5_seesSegment (d + 1) 0 (mv_in [.ref u0] 1) [] h Q := by
  unfold w_X5_seesSegment at hq
  show mv_rq l G mX5_seesSegment (d + 1) 0 [some (.ref u0)] [] h _
  refine q_aload_n dX5_seesSegment_0 rfl ?_
  obtain ⟨fs1, x1, f1, g1, hq⟩ := vgb_e hq
  refine q_getf (k := 0) (T := TX5) (C0 := RX5) (N := 2) (ci := 7) dX5_seesSegment_1 fl_RX5_12 rfl uin_RX5 (by decide) rfl f1 g1 ?_
  obtain ⟨⟨fs4, f4⟩, hq⟩ := vob_e hq
  refine q_cV (Y := mX0_look) (As := []) (st := []) (b := x1) (ci := 2) vc_X0_look dX5_seesSegment_4 ml_RX5_26 rfl f4 rfl (Nat.le_of_ble_eq_true rfl) rfl (Nat.le_of_ble_eq_true rfl) hq (fun v h1 hq1 => ?_) (fun E h1 hq1 => ?_)
  rotate_left
  ·
    rcases hq1 with hq1 | ⟨E1, e1, hq1⟩
    · obtain ⟨_, z, _⟩ := hq1; exact nomatch z
    · obtain rfl := Sum.inr.inj e1; exact q_xout (fun z hz => nomatch hz) hq1
  rcases hq1 with hq1 | ⟨E1, e1, hq1⟩
  rotate_left
  · exact nomatch e1
  obtain ⟨x4, hv, hq⟩ := hq1
  obtain rfl := Sum.inl.inj hv
  clear hv
  obtain ⟨h4, eh4⟩ : ∃ z, z = h1 := ⟨_, rfl⟩
  rw [← eh4] at hq ⊢
  clear eh4
  show mv_rq l G mX5_seesSegment (d + 1) 7 [some (.ref u0)] [.int x4] h4 _
  refine q_bipush (v := 46) dX5_seesSegment_7 (by decide) ?_
  refine q_icmp_eq (tgt := 24) dX5_seesSegment_9 (by decide) (fun c9 => ?_) (fun c9 => ?_)
  ·
    have hq := vif_t hq c9
    refine q_iconst (v := 1) dX5_seesSegment_24 (by decide) ?_
    refine q_goto (tgt := 29) dX5_seesSegment_25 (by decide) ?_
    exact q_iret (ty := .boolean) dX5_seesSegment_29 rfl rfl hq
  ·
    have hq := vif_f hq c9
    refine q_aload_n dX5_seesSegment_12 rfl ?_
    obtain ⟨fs13, x13, f13, g13, hq⟩ := vgb_e hq
    refine q_getf (k := 0) (T := TX5) (C0 := RX5) (N := 2) (ci := 7) dX5_seesSegment_13 fl_RX5_12 rfl uin_RX5 (by decide) rfl f13 g13 ?_
    obtain ⟨⟨fs16, f16⟩, hq⟩ := vob_e hq
    refine q_cV (Y := mX0_look) (As := []) (st := []) (b := x13) (ci := 2) vc_X0_look dX5_seesSegment_16 ml_RX5_26 rfl f16 rfl (Nat.le_of_ble_eq_true rfl) rfl (Nat.le_of_ble_eq_true rfl) hq (fun v h1 hq1 => ?_) (fun E h1 hq1 => ?_)
    rotate_left
    ·
      rcases hq1 with hq1 | ⟨E1, e1, hq1⟩
      · obtain ⟨_, z, _⟩ := hq1; exact nomatch z
      · obtain rfl := Sum.inr.inj e1; exact q_xout (fun z hz => nomatch hz) hq1
    rcases hq1 with hq1 | ⟨E1, e1, hq1⟩
    rotate_left
    · exact nomatch e1
    obtain ⟨x16, hv, hq⟩ := hq1
    obtain rfl := Sum.inl.inj hv
    clear hv
    obtain ⟨h16, eh16⟩ : ∃ z, z = h1 := ⟨_, rfl⟩
    rw [← eh16] at hq ⊢
    clear eh16
    show mv_rq l G mX5_seesSegment (d + 1) 19 [some (.ref u0)] [.int x16] h16 _
    refine q_bipush (v := 91) dX5_seesSegment_19 (by decide) ?_
    refine q_icmp_ne (tgt := 28) dX5_seesSegment_21 (by decide) (fun c21 => ?_) (fun c21 => ?_)
    ·
      have hq := vif_f hq c21
      refine q_iconst (v := 0) dX5_seesSegment_28 (by decide) ?_
      exact q_iret (ty := .boolean) dX5_seesSegment_29 rfl rfl hq
    ·
      have hq := vif_t hq c21
      refine q_iconst (v := 1) dX5_seesSegment_24 (by decide) ?_
      refine q_goto (tgt := 29) dX5_seesSegment_25 (by decide) ?_
      exact q_iret (ty := .boolean) dX5_seesSegment_29 rfl rfl hq
def w_X5_readSegment (l : Launch) (G : mv_G) (d : Nat) (u0 : Nat) (u1 : Int32) (h : mv_H) (Q : mv_O → mv_H → Prop) : Prop :=
  vgb h u0 7 0 fun x1 =>
  vob h x1 2 (
  mv_rq l G mX0_passes d 0 (mv_in [.ref x1, .int 46] 2) [] h (vI (fun E h1 => Q (.inr E) h1) (fun x6 h6 =>
  vnw h6 4 (.inr (9, [.int 0, .null, .null, .null])) fun a10 h10 =>
  vif (x6 = 0) (
    mv_rq l G mX5_readSegment (d + 1) 34 [some (.ref u0), some (.int u1), some (.int x6), none, none] [.ref a10, .ref a10] h10 Q) (
    vgb h10 u0 7 0 fun x19 =>
    vob h10 x19 2 (
    mv_rq l G mX0_passes d 0 (mv_in [.ref x19, .int 46] 2) [] h10 (vI (fun E h1 => Q (.inr E) h1) (fun x24 h24 =>
    vif (x24 = 0) (
      mv_rq l G mX5_readSegment (d + 1) 34 [some (.ref u0), some (.int u1), some (.int x6), none, none] [.ref a10, .ref a10] h24 Q) (
      mv_rq l G mX5_readSegment (d + 1) 35 [some (.ref u0), some (.int u1), some (.int x6), none, none] [.int 1, .ref a10, .ref a10] h24 Q))))))))
theorem v_X5_readSegment {l : Launch} {G : mv_G} {d : Nat} {u0 : Nat} {u1 : Int32} {h : mv_H} {Q : mv_O → mv_H → Prop} (hG : mv_ok G) (hq : w_X5_readSegment l G d u0 u1 h Q) : mv_rq l G mX5_readSegment (d + 1) 0 (mv_in [.ref u0, .int u1] 5) [] h Q := by
  unfold w_X5_readSegment at hq
  show mv_rq l G mX5_readSegment (d + 1) 0 [some (.ref u0), some (.int u1), none, none, none] [] h _
  refine q_aload_n dX5_readSegment_0 rfl ?_
  obtain ⟨fs1, x1, f1, g1, hq⟩ := vgb_e hq
  refine q_getf (k := 0) (T := TX5) (C0 := RX5) (N := 2) (ci := 7) dX5_readSegment_1 fl_RX5_12 rfl uin_RX5 (by decide) rfl f1 g1 ?_
  refine q_bipush (v := 46) dX5_readSegment_4 (by decide) ?_
  obtain ⟨⟨fs6, f6⟩, hq⟩ := vob_e hq
  refine q_cV (Y := mX0_passes) (As := [.int 46]) (st := []) (b := x1) (ci := 2) vc_X0_passes dX5_readSegment_6 ml_RX5_70 rfl f6 rfl (Nat.le_of_ble_eq_true rfl) rfl (Nat.le_of_ble_eq_true rfl) hq (fun v h1 hq1 => ?_) (fun E h1 hq1 => ?_)
  rotate_left
  ·
    rcases hq1 with hq1 | ⟨E1, e1, hq1⟩
    · obtain ⟨_, z, _⟩ := hq1; exact nomatch z
    · obtain rfl := Sum.inr.inj e1; exact q_xout (fun z hz => nomatch hz) hq1
  rcases hq1 with hq1 | ⟨E1, e1, hq1⟩
  rotate_left
  · exact nomatch e1
  obtain ⟨x6, hv, hq⟩ := hq1
  obtain rfl := Sum.inl.inj hv
  clear hv
  obtain ⟨h6, eh6⟩ : ∃ z, z = h1 := ⟨_, rfl⟩
  rw [← eh6] at hq ⊢
  clear eh6
  show mv_rq l G mX5_readSegment (d + 1) 9 [some (.ref u0), some (.int u1), none, none, none] [.int x6] h6 _
  refine q_istore_n dX5_readSegment_9 (Nat.le_of_ble_eq_true rfl) rfl ?_
  show mv_rq l G mX5_readSegment (d + 1) 10 [some (.ref u0), some (.int u1), some (.int x6), none, none] [] h6 _
  obtain ⟨a10, h10, ea10, eh10, hq⟩ := vnw_e hq
  refine q_new (fs := [.int 0, .null, .null, .null]) (ci := 9) (T := TX7) (N := 4) tyX7 tyX7_ok dX5_readSegment_10 cl_RX5_74 inst_RX7 init_RX7 uin_RX7 rfl (by decide) ?_
  rw [← eh10, ← ea10]
  show mv_rq l G mX5_readSegment (d + 1) 13 [some (.ref u0), some (.int u1), some (.int x6), none, none] [.ref a10] h10 _
  refine q_dup dX5_readSegment_13 rfl ?_
  refine q_iload_n dX5_readSegment_14 rfl ?_
  refine q_if_eq (tgt := 34) dX5_readSegment_15 (by decide) (fun c15 => ?_) (fun c15 => ?_)
  ·
    have hq := vif_t hq c15
    exact mv_weak (A := [some (.ref u0), some (.int u1), some (.int x6), none, none]) (by repeat' constructor) hq
  ·
    have hq := vif_f hq c15
    refine q_aload_n dX5_readSegment_18 rfl ?_
    obtain ⟨fs19, x19, f19, g19, hq⟩ := vgb_e hq
    refine q_getf (k := 0) (T := TX5) (C0 := RX5) (N := 2) (ci := 7) dX5_readSegment_19 fl_RX5_12 rfl uin_RX5 (by decide) rfl f19 g19 ?_
    refine q_bipush (v := 46) dX5_readSegment_22 (by decide) ?_
    obtain ⟨⟨fs24, f24⟩, hq⟩ := vob_e hq
    refine q_cV (Y := mX0_passes) (As := [.int 46]) (st := [.ref a10, .ref a10]) (b := x19) (ci := 2) vc_X0_passes dX5_readSegment_24 ml_RX5_70 rfl f24 rfl (Nat.le_of_ble_eq_true rfl) rfl (Nat.le_of_ble_eq_true rfl) hq (fun v h1 hq1 => ?_) (fun E h1 hq1 => ?_)
    rotate_left
    ·
      rcases hq1 with hq1 | ⟨E1, e1, hq1⟩
      · obtain ⟨_, z, _⟩ := hq1; exact nomatch z
      · obtain rfl := Sum.inr.inj e1; exact q_xout (fun z hz => nomatch hz) hq1
    rcases hq1 with hq1 | ⟨E1, e1, hq1⟩
    rotate_left
    · exact nomatch e1
    obtain ⟨x24, hv, hq⟩ := hq1
    obtain rfl := Sum.inl.inj hv
    clear hv
    obtain ⟨h24, eh24⟩ : ∃ z, z = h1 := ⟨_, rfl⟩
    rw [← eh24] at hq ⊢
    clear eh24
    show mv_rq l G mX5_readSegment (d + 1) 27 [some (.ref u0), some (.int u1), some (.int x6), none, none] [.int x24, .ref a10, .ref a10] h24 _
    refine q_if_eq (tgt := 34) dX5_readSegment_27 (by decide) (fun c27 => ?_) (fun c27 => ?_)
    ·
      have hq := vif_t hq c27
      exact mv_weak (A := [some (.ref u0), some (.int u1), some (.int x6), none, none]) (by repeat' constructor) hq
    ·
      have hq := vif_f hq c27
      refine q_iconst (v := 1) dX5_readSegment_30 (by decide) ?_
      refine q_goto (tgt := 35) dX5_readSegment_31 (by decide) ?_
      exact mv_weak (A := [some (.ref u0), some (.int u1), some (.int x6), none, none]) (by repeat' constructor) hq
def w_X5_readSegment_34 (l : Launch) (G : mv_G) (d : Nat) (u0 : Nat) (u1 : Int32) (u2 : Int32) (w0 : Nat) (w1 : Nat) (h : mv_H) (Q : mv_O → mv_H → Prop) : Prop :=
  mv_rq l G mX5_readSegment (d + 1) 35 [some (.ref u0), some (.int u1), some (.int u2), none, none] [.int 0, .ref w0, .ref w1] h Q
theorem v_X5_readSegment_34 {l : Launch} {G : mv_G} {d : Nat} {u0 : Nat} {u1 : Int32} {u2 : Int32} {w0 : Nat} {w1 : Nat} {h : mv_H} {Q : mv_O → mv_H → Prop} (hG : mv_ok G) (hq : w_X5_readSegment_34 l G d u0 u1 u2 w0 w1 h Q) : mv_rq l G mX5_readSegment (d + 1) 34 [some (.ref u0), some (.int u1), some (.int u2), none, none] [.ref w0, .ref w1] h Q := by
  unfold w_X5_readSegment_34 at hq
  refine q_iconst (v := 0) dX5_readSegment_34 (by decide) ?_
  exact mv_weak (A := [some (.ref u0), some (.int u1), some (.int u2), none, none]) (by repeat' constructor) hq
def w_X5_readSegment_35 (l : Launch) (G : mv_G) (d : Nat) (u0 : Nat) (u1 : Int32) (u2 : Int32) (w0 : Int32) (w1 : Nat) (w2 : Nat) (h : mv_H) (Q : mv_O → mv_H → Prop) : Prop :=
  mv_rq l G mX7_init d 0 (mv_in [.ref w1, .int w0] 2) [] h (vU (fun E h1 => Q (.inr E) h1) (fun h35 =>
  vgb h35 u0 7 0 fun x40 =>
  vob h35 x40 2 (
  mv_rq l G mX0_look d 0 (mv_in [.ref x40] 1) [] h35 (vI (fun E h1 => Q (.inr E) h1) (fun x43 h43 =>
  vif (x43 = 91) (
    vif (u2 = 0) (
      mv_rq l G mX5_readSegment (d + 1) 62 [some (.ref u0), some (.int u1), none, some (.ref w2), none] [] h43 Q) (
      vgi h43 w2 9 0 fun x56 =>
      vif (x56 = 0) (
        mv_rq l G mX5_readSegment (d + 1) 71 [some (.ref u0), none, none, some (.ref w2), none] [] h43 Q) (
        mv_rq l G mX5_readSegment (d + 1) 62 [some (.ref u0), some (.int u1), none, some (.ref w2), none] [] h43 Q))) (
    mv_rq l G mX5_readSegment (d + 1) 71 [some (.ref u0), none, none, some (.ref w2), none] [] h43 Q))))))
theorem v_X5_readSegment_35 {l : Launch} {G : mv_G} {d : Nat} {u0 : Nat} {u1 : Int32} {u2 : Int32} {w0 : Int32} {w1 : Nat} {w2 : Nat} {h : mv_H} {Q : mv_O → mv_H → Prop} (hG : mv_ok G) (hq : w_X5_readSegment_35 l G d u0 u1 u2 w0 w1 w2 h Q) : mv_rq l G mX5_readSegment (d + 1) 35 [some (.ref u0), some (.int u1), some (.int u2), none, none] [.int w0, .ref w1, .ref w2] h Q := by
  unfold w_X5_readSegment_35 at hq
  refine q_cI (Y := mX7_init) (As := [.int w0]) (st := [.ref w2]) (b := w1) ic_X7_init dX5_readSegment_35 ml_RX5_76 rfl (Nat.le_of_ble_eq_true rfl) rfl (Nat.le_of_ble_eq_true rfl) hq (fun v h1 hq1 => ?_) (fun E h1 hq1 => ?_)
  rotate_left
  ·
    rcases hq1 with hq1 | ⟨E1, e1, hq1⟩
    · exact nomatch hq1.1
    · obtain rfl := Sum.inr.inj e1; exact q_xout (fun z hz => nomatch hz) hq1
  rcases hq1 with hq1 | ⟨E1, e1, hq1⟩
  rotate_left
  · exact nomatch e1
  obtain ⟨hv, hq⟩ := hq1
  obtain rfl := Sum.inl.inj hv
  clear hv
  obtain ⟨h35, eh35⟩ : ∃ z, z = h1 := ⟨_, rfl⟩
  rw [← eh35] at hq ⊢
  clear eh35
  show mv_rq l G mX5_readSegment (d + 1) 38 [some (.ref u0), some (.int u1), some (.int u2), none, none] [.ref w2] h35 _
  refine q_astore_n dX5_readSegment_38 (Nat.le_of_ble_eq_true rfl) rfl ?_
  show mv_rq l G mX5_readSegment (d + 1) 39 [some (.ref u0), some (.int u1), some (.int u2), some (.ref w2), none] [] h35 _
  refine q_aload_n dX5_readSegment_39 rfl ?_
  obtain ⟨fs40, x40, f40, g40, hq⟩ := vgb_e hq
  refine q_getf (k := 0) (T := TX5) (C0 := RX5) (N := 2) (ci := 7) dX5_readSegment_40 fl_RX5_12 rfl uin_RX5 (by decide) rfl f40 g40 ?_
  obtain ⟨⟨fs43, f43⟩, hq⟩ := vob_e hq
  refine q_cV (Y := mX0_look) (As := []) (st := []) (b := x40) (ci := 2) vc_X0_look dX5_readSegment_43 ml_RX5_26 rfl f43 rfl (Nat.le_of_ble_eq_true rfl) rfl (Nat.le_of_ble_eq_true rfl) hq (fun v h1 hq1 => ?_) (fun E h1 hq1 => ?_)
  rotate_left
  ·
    rcases hq1 with hq1 | ⟨E1, e1, hq1⟩
    · obtain ⟨_, z, _⟩ := hq1; exact nomatch z
    · obtain rfl := Sum.inr.inj e1; exact q_xout (fun z hz => nomatch hz) hq1
  rcases hq1 with hq1 | ⟨E1, e1, hq1⟩
  rotate_left
  · exact nomatch e1
  obtain ⟨x43, hv, hq⟩ := hq1
  obtain rfl := Sum.inl.inj hv
  clear hv
  obtain ⟨h43, eh43⟩ : ∃ z, z = h1 := ⟨_, rfl⟩
  rw [← eh43] at hq ⊢
  clear eh43
  show mv_rq l G mX5_readSegment (d + 1) 46 [some (.ref u0), some (.int u1), some (.int u2), some (.ref w2), none] [.int x43] h43 _
  refine q_bipush (v := 91) dX5_readSegment_46 (by decide) ?_
  refine q_icmp_ne (tgt := 71) dX5_readSegment_48 (by decide) (fun c48 => ?_) (fun c48 => ?_)
  ·
    have hq := vif_f hq c48
    exact mv_weak (A := [some (.ref u0), none, none, some (.ref w2), none]) (by repeat' constructor) hq
  ·
    have hq := vif_t hq c48
    refine q_iload_n dX5_readSegment_51 rfl ?_
    refine q_if_eq (tgt := 62) dX5_readSegment_52 (by decide) (fun c52 => ?_) (fun c52 => ?_)
    ·
      have hq := vif_t hq c52
      exact mv_weak (A := [some (.ref u0), some (.int u1), none, some (.ref w2), none]) (by repeat' constructor) hq
    ·
      have hq := vif_f hq c52
      refine q_aload_n dX5_readSegment_55 rfl ?_
      obtain ⟨fs56, x56, f56, g56, hq⟩ := vgi_e hq
      refine q_getf (k := 0) (T := TX7) (C0 := RX7) (N := 4) (ci := 9) dX5_readSegment_56 fl_RX5_77 rfl uin_RX7 (by decide) rfl f56 g56 ?_
      refine q_if_eq (tgt := 71) dX5_readSegment_59 (by decide) (fun c59 => ?_) (fun c59 => ?_)
      ·
        have hq := vif_t hq c59
        exact mv_weak (A := [some (.ref u0), none, none, some (.ref w2), none]) (by repeat' constructor) hq
      ·
        have hq := vif_f hq c59
        exact mv_weak (A := [some (.ref u0), some (.int u1), none, some (.ref w2), none]) (by repeat' constructor) hq
def w_X5_readSegment_62 (l : Launch) (G : mv_G) (d : Nat) (u0 : Nat) (u1 : Int32) (u3 : Nat) (h : mv_H) (Q : mv_O → mv_H → Prop) : Prop :=
  vob h u0 7 (
  mv_rq l G mX5_readSelectors d 0 (mv_in [.ref u0, .ref u3, .int u1] 4) [] h (vU (fun E h1 => Q (.inr E) h1) (fun h65 =>
  Q (.inl (some (.ref u3))) h65)))
theorem v_X5_readSegment_62 {l : Launch} {G : mv_G} {d : Nat} {u0 : Nat} {u1 : Int32} {u3 : Nat} {h : mv_H} {Q : mv_O → mv_H → Prop} (hG : mv_ok G) (hq : w_X5_readSegment_62 l G d u0 u1 u3 h Q) : mv_rq l G mX5_readSegment (d + 1) 62 [some (.ref u0), some (.int u1), none, some (.ref u3), none] [] h Q := by
  unfold w_X5_readSegment_62 at hq
  refine q_aload_n dX5_readSegment_62 rfl ?_
  refine q_aload_n dX5_readSegment_63 rfl ?_
  refine q_iload_n dX5_readSegment_64 rfl ?_
  obtain ⟨⟨fs65, f65⟩, hq⟩ := vob_e hq
  refine q_cV (Y := mX5_readSelectors) (As := [.ref u3, .int u1]) (st := []) (b := u0) (ci := 7) vc_X5_readSelectors dX5_readSegment_65 ml_RX5_81 rfl f65 rfl (Nat.le_of_ble_eq_true rfl) rfl (Nat.le_of_ble_eq_true rfl) hq (fun v h1 hq1 => ?_) (fun E h1 hq1 => ?_)
  rotate_left
  ·
    rcases hq1 with hq1 | ⟨E1, e1, hq1⟩
    · exact nomatch hq1.1
    · obtain rfl := Sum.inr.inj e1; exact q_xout (fun z hz => nomatch hz) hq1
  rcases hq1 with hq1 | ⟨E1, e1, hq1⟩
  rotate_left
  · exact nomatch e1
  obtain ⟨hv, hq⟩ := hq1
  obtain rfl := Sum.inl.inj hv
  clear hv
  obtain ⟨h65, eh65⟩ : ∃ z, z = h1 := ⟨_, rfl⟩
  rw [← eh65] at hq ⊢
  clear eh65
  show mv_rq l G mX5_readSegment (d + 1) 68 [some (.ref u0), some (.int u1), none, some (.ref u3), none] [] h65 _
  refine q_goto (tgt := 126) dX5_readSegment_68 (by decide) ?_
  refine q_aload_n dX5_readSegment_126 rfl ?_
  exact q_aret (rt := (.object "TreePaths$Segment")) dX5_readSegment_127 rfl (Or.inl ⟨_, rfl⟩) (Or.inr ⟨_, rfl⟩) hq
def w_X5_readSegment_71 (l : Launch) (G : mv_G) (d : Nat) (u0 : Nat) (u3 : Nat) (h : mv_H) (Q : mv_O → mv_H → Prop) : Prop :=
  vgb h u0 7 0 fun x72 =>
  vob h x72 2 (
  mv_rq l G mX0_passes d 0 (mv_in [.ref x72, .int 42] 2) [] h (vI (fun E h1 => Q (.inr E) h1) (fun x77 h77 =>
  vif (x77 = 0) (
    vnw h77 9 (.inr (10, [.int 0, .null, .int 0, .int 0, .int 0, .int 0, .int 0, .null, .null])) fun a98 h98 =>
    mv_rq l G mX8_init d 0 (mv_in [.ref a98, .int 0] 2) [] h98 (vU (fun E h1 => Q (.inr E) h1) (fun h103 =>
    vgb h103 u0 7 0 fun x111 =>
    vob h103 x111 2 (
    mv_rq l G mX0_readName d 0 (mv_in [.ref x111] 3) [] h103 (vB (fun E h1 => Q (.inr E) h1) (fun x114 h114 =>
    vpu G h114 a98 10 1 (.ref x114) fun h117 =>
    vob h117 u3 9 (
    mv_rq l G mX7_add d 0 (mv_in [.ref u3, .ref a98] 2) [] h117 (vU (fun E h1 => Q (.inr E) h1) (fun h123 =>
    Q (.inl (some (.ref u3))) h123))))))))) (
    vnw h77 9 (.inr (10, [.int 0, .null, .int 0, .int 0, .int 0, .int 0, .int 0, .null, .null])) fun a84 h84 =>
    mv_rq l G mX8_init d 0 (mv_in [.ref a84, .int 1] 2) [] h84 (vU (fun E h1 => Q (.inr E) h1) (fun h89 =>
    vob h89 u3 9 (
    mv_rq l G mX7_add d 0 (mv_in [.ref u3, .ref a84] 2) [] h89 (vU (fun E h1 => Q (.inr E) h1) (fun h92 =>
    Q (.inl (some (.ref u3))) h92)))))))))
theorem v_X5_readSegment_71 {l : Launch} {G : mv_G} {d : Nat} {u0 : Nat} {u3 : Nat} {h : mv_H} {Q : mv_O → mv_H → Prop} (hG : mv_ok G) (hq : w_X5_readSegment_71 l G d u0 u3 h Q) : mv_rq l G mX5_readSegment (d + 1) 71 [some (.ref u0), none, none, some (.ref u3), none] [] h Q := by
  unfold w_X5_readSegment_71 at hq
  refine q_aload_n dX5_readSegment_71 rfl ?_
  obtain ⟨fs72, x72, f72, g72, hq⟩ := vgb_e hq
  refine q_getf (k := 0) (T := TX5) (C0 := RX5) (N := 2) (ci := 7) dX5_readSegment_72 fl_RX5_12 rfl uin_RX5 (by decide) rfl f72 g72 ?_
  refine q_bipush (v := 42) dX5_readSegment_75 (by decide) ?_
  obtain ⟨⟨fs77, f77⟩, hq⟩ := vob_e hq
  refine q_cV (Y := mX0_passes) (As := [.int 42]) (st := []) (b := x72) (ci := 2) vc_X0_passes dX5_readSegment_77 ml_RX5_70 rfl f77 rfl (Nat.le_of_ble_eq_true rfl) rfl (Nat.le_of_ble_eq_true rfl) hq (fun v h1 hq1 => ?_) (fun E h1 hq1 => ?_)
  rotate_left
  ·
    rcases hq1 with hq1 | ⟨E1, e1, hq1⟩
    · obtain ⟨_, z, _⟩ := hq1; exact nomatch z
    · obtain rfl := Sum.inr.inj e1; exact q_xout (fun z hz => nomatch hz) hq1
  rcases hq1 with hq1 | ⟨E1, e1, hq1⟩
  rotate_left
  · exact nomatch e1
  obtain ⟨x77, hv, hq⟩ := hq1
  obtain rfl := Sum.inl.inj hv
  clear hv
  obtain ⟨h77, eh77⟩ : ∃ z, z = h1 := ⟨_, rfl⟩
  rw [← eh77] at hq ⊢
  clear eh77
  show mv_rq l G mX5_readSegment (d + 1) 80 [some (.ref u0), none, none, some (.ref u3), none] [.int x77] h77 _
  refine q_if_eq (tgt := 98) dX5_readSegment_80 (by decide) (fun c80 => ?_) (fun c80 => ?_)
  ·
    have hq := vif_t hq c80
    obtain ⟨a98, h98, ea98, eh98, hq⟩ := vnw_e hq
    refine q_new (fs := [.int 0, .null, .int 0, .int 0, .int 0, .int 0, .int 0, .null, .null]) (ci := 10) (T := TX8) (N := 9) tyX8 tyX8_ok dX5_readSegment_98 cl_RX5_85 inst_RX8 init_RX8 uin_RX8 rfl (by decide) ?_
    rw [← eh98, ← ea98]
    show mv_rq l G mX5_readSegment (d + 1) 101 [some (.ref u0), none, none, some (.ref u3), none] [.ref a98] h98 _
    refine q_dup dX5_readSegment_101 rfl ?_
    refine q_iconst (v := 0) dX5_readSegment_102 (by decide) ?_
    refine q_cI (Y := mX8_init) (As := [.int 0]) (st := [.ref a98]) (b := a98) ic_X8_init dX5_readSegment_103 ml_RX5_87 rfl (Nat.le_of_ble_eq_true rfl) rfl (Nat.le_of_ble_eq_true rfl) hq (fun v h1 hq1 => ?_) (fun E h1 hq1 => ?_)
    rotate_left
    ·
      rcases hq1 with hq1 | ⟨E1, e1, hq1⟩
      · exact nomatch hq1.1
      · obtain rfl := Sum.inr.inj e1; exact q_xout (fun z hz => nomatch hz) hq1
    rcases hq1 with hq1 | ⟨E1, e1, hq1⟩
    rotate_left
    · exact nomatch e1
    obtain ⟨hv, hq⟩ := hq1
    obtain rfl := Sum.inl.inj hv
    clear hv
    obtain ⟨h103, eh103⟩ : ∃ z, z = h1 := ⟨_, rfl⟩
    rw [← eh103] at hq ⊢
    clear eh103
    show mv_rq l G mX5_readSegment (d + 1) 106 [some (.ref u0), none, none, some (.ref u3), none] [.ref a98] h103 _
    refine q_astore dX5_readSegment_106 (Nat.le_of_ble_eq_true rfl) rfl ?_
    show mv_rq l G mX5_readSegment (d + 1) 108 [some (.ref u0), none, none, some (.ref u3), some (.ref a98)] [] h103 _
    refine q_aload dX5_readSegment_108 rfl ?_
    refine q_aload_n dX5_readSegment_110 rfl ?_
    obtain ⟨fs111, x111, f111, g111, hq⟩ := vgb_e hq
    refine q_getf (k := 0) (T := TX5) (C0 := RX5) (N := 2) (ci := 7) dX5_readSegment_111 fl_RX5_12 rfl uin_RX5 (by decide) rfl f111 g111 ?_
    obtain ⟨⟨fs114, f114⟩, hq⟩ := vob_e hq
    refine q_cV (Y := mX0_readName) (As := []) (st := [.ref a98]) (b := x111) (ci := 2) vc_X0_readName dX5_readSegment_114 ml_RX5_92 rfl f114 rfl (Nat.le_of_ble_eq_true rfl) rfl (Nat.le_of_ble_eq_true rfl) hq (fun v h1 hq1 => ?_) (fun E h1 hq1 => ?_)
    rotate_left
    ·
      rcases hq1 with hq1 | ⟨E1, e1, hq1⟩
      · obtain ⟨_, z, _⟩ := hq1; exact nomatch z
      · obtain rfl := Sum.inr.inj e1; exact q_xout (fun z hz => nomatch hz) hq1
    rcases hq1 with hq1 | ⟨E1, e1, hq1⟩
    rotate_left
    · exact nomatch e1
    obtain ⟨x114, hv, hq⟩ := hq1
    obtain rfl := Sum.inl.inj hv
    clear hv
    obtain ⟨h114, eh114⟩ : ∃ z, z = h1 := ⟨_, rfl⟩
    rw [← eh114] at hq ⊢
    clear eh114
    show mv_rq l G mX5_readSegment (d + 1) 117 [some (.ref u0), none, none, some (.ref u3), some (.ref a98)] [.ref x114, .ref a98] h114 _
    obtain ⟨fs117, h117, f117, b117, l117, e117, hq⟩ := vpu_e hq
    refine q_putf (k := 1) (T := TX8) (C0 := RX8) (N := 9) (ci := 10) (ty := (.object "java/lang/String")) tyX8 tyX8_ok nmX8 dX5_readSegment_117 fl_RX5_96 rfl uin_RX8 (by decide) rfl rfl (by decide +kernel) rfl rfl b117 f117 l117 ?_
    rw [← e117]
    show mv_rq l G mX5_readSegment (d + 1) 120 [some (.ref u0), none, none, some (.ref u3), some (.ref a98)] [] h117 _
    refine q_aload_n dX5_readSegment_120 rfl ?_
    refine q_aload dX5_readSegment_121 rfl ?_
    obtain ⟨⟨fs123, f123⟩, hq⟩ := vob_e hq
    refine q_cV (Y := mX7_add) (As := [.ref a98]) (st := []) (b := u3) (ci := 9) vc_X7_add dX5_readSegment_123 ml_RX5_89 rfl f123 rfl (Nat.le_of_ble_eq_true rfl) rfl (Nat.le_of_ble_eq_true rfl) hq (fun v h1 hq1 => ?_) (fun E h1 hq1 => ?_)
    rotate_left
    ·
      rcases hq1 with hq1 | ⟨E1, e1, hq1⟩
      · exact nomatch hq1.1
      · obtain rfl := Sum.inr.inj e1; exact q_xout (fun z hz => nomatch hz) hq1
    rcases hq1 with hq1 | ⟨E1, e1, hq1⟩
    rotate_left
    · exact nomatch e1
    obtain ⟨hv, hq⟩ := hq1
    obtain rfl := Sum.inl.inj hv
    clear hv
    obtain ⟨h123, eh123⟩ : ∃ z, z = h1 := ⟨_, rfl⟩
    rw [← eh123] at hq ⊢
    clear eh123
    show mv_rq l G mX5_readSegment (d + 1) 126 [some (.ref u0), none, none, some (.ref u3), some (.ref a98)] [] h123 _
    refine q_aload_n dX5_readSegment_126 rfl ?_
    exact q_aret (rt := (.object "TreePaths$Segment")) dX5_readSegment_127 rfl (Or.inl ⟨_, rfl⟩) (Or.inr ⟨_, rfl⟩) hq
  ·
    have hq := vif_f hq c80
    refine q_aload_n dX5_readSegment_83 rfl ?_
    obtain ⟨a84, h84, ea84, eh84, hq⟩ := vnw_e hq
    refine q_new (fs := [.int 0, .null, .int 0, .int 0, .int 0, .int 0, .int 0, .null, .null]) (ci := 10) (T := TX8) (N := 9) tyX8 tyX8_ok dX5_readSegment_84 cl_RX5_85 inst_RX8 init_RX8 uin_RX8 rfl (by decide) ?_
    rw [← eh84, ← ea84]
    show mv_rq l G mX5_readSegment (d + 1) 87 [some (.ref u0), none, none, some (.ref u3), none] [.ref a84, .ref u3] h84 _
    refine q_dup dX5_readSegment_87 rfl ?_
    refine q_iconst (v := 1) dX5_readSegment_88 (by decide) ?_
    refine q_cI (Y := mX8_init) (As := [.int 1]) (st := [.ref a84, .ref u3]) (b := a84) ic_X8_init dX5_readSegment_89 ml_RX5_87 rfl (Nat.le_of_ble_eq_true rfl) rfl (Nat.le_of_ble_eq_true rfl) hq (fun v h1 hq1 => ?_) (fun E h1 hq1 => ?_)
    rotate_left
    ·
      rcases hq1 with hq1 | ⟨E1, e1, hq1⟩
      · exact nomatch hq1.1
      · obtain rfl := Sum.inr.inj e1; exact q_xout (fun z hz => nomatch hz) hq1
    rcases hq1 with hq1 | ⟨E1, e1, hq1⟩
    rotate_left
    · exact nomatch e1
    obtain ⟨hv, hq⟩ := hq1
    obtain rfl := Sum.inl.inj hv
    clear hv
    obtain ⟨h89, eh89⟩ : ∃ z, z = h1 := ⟨_, rfl⟩
    rw [← eh89] at hq ⊢
    clear eh89
    show mv_rq l G mX5_readSegment (d + 1) 92 [some (.ref u0), none, none, some (.ref u3), none] [.ref a84, .ref u3] h89 _
    obtain ⟨⟨fs92, f92⟩, hq⟩ := vob_e hq
    refine q_cV (Y := mX7_add) (As := [.ref a84]) (st := []) (b := u3) (ci := 9) vc_X7_add dX5_readSegment_92 ml_RX5_89 rfl f92 rfl (Nat.le_of_ble_eq_true rfl) rfl (Nat.le_of_ble_eq_true rfl) hq (fun v h1 hq1 => ?_) (fun E h1 hq1 => ?_)
    rotate_left
    ·
      rcases hq1 with hq1 | ⟨E1, e1, hq1⟩
      · exact nomatch hq1.1
      · obtain rfl := Sum.inr.inj e1; exact q_xout (fun z hz => nomatch hz) hq1
    rcases hq1 with hq1 | ⟨E1, e1, hq1⟩
    rotate_left
    · exact nomatch e1
    obtain ⟨hv, hq⟩ := hq1
    obtain rfl := Sum.inl.inj hv
    clear hv
    obtain ⟨h92, eh92⟩ : ∃ z, z = h1 := ⟨_, rfl⟩
    rw [← eh92] at hq ⊢
    clear eh92
    show mv_rq l G mX5_readSegment (d + 1) 95 [some (.ref u0), none, none, some (.ref u3), none] [] h92 _
    refine q_goto (tgt := 126) dX5_readSegment_95 (by decide) ?_
    refine q_aload_n dX5_readSegment_126 rfl ?_
    exact q_aret (rt := (.object "TreePaths$Segment")) dX5_readSegment_127 rfl (Or.inl ⟨_, rfl⟩) (Or.inr ⟨_, rfl⟩) hq
def w_X5_readSelectors (l : Launch) (G : mv_G) (d : Nat) (u0 : Nat) (u1 : Nat) (u2 : Int32) (h : mv_H) (Q : mv_O → mv_H → Prop) : Prop :=
  vgb h u0 7 0 fun x1 =>
  vob h x1 2 (
  mv_rq l G mX0_expect d 0 (mv_in [.ref x1, .int 91] 2) [] h (vU (fun E h1 => Q (.inr E) h1) (fun h6 =>
  mv_rq l G mX5_readSelectors (d + 1) 11 [some (.ref u0), some (.ref u1), some (.int u2), some (.int 0)] [] h6 Q)))
theorem v_X5_readSelectors {l : Launch} {G : mv_G} {d : Nat} {u0 : Nat} {u1 : Nat} {u2 : Int32} {h : mv_H} {Q : mv_O → mv_H → Prop} (hG : mv_ok G) (hq : w_X5_readSelectors l G d u0 u1 u2 h Q) : mv_rq l G mX5_readSelectors (d + 1) 0 (mv_in [.ref u0, .ref u1, .int u2] 4) [] h Q := by
  unfold w_X5_readSelectors at hq
  show mv_rq l G mX5_readSelectors (d + 1) 0 [some (.ref u0), some (.ref u1), some (.int u2), none] [] h _
  refine q_aload_n dX5_readSelectors_0 rfl ?_
  obtain ⟨fs1, x1, f1, g1, hq⟩ := vgb_e hq
  refine q_getf (k := 0) (T := TX5) (C0 := RX5) (N := 2) (ci := 7) dX5_readSelectors_1 fl_RX5_12 rfl uin_RX5 (by decide) rfl f1 g1 ?_
  refine q_bipush (v := 91) dX5_readSelectors_4 (by decide) ?_
  obtain ⟨⟨fs6, f6⟩, hq⟩ := vob_e hq
  refine q_cV (Y := mX0_expect) (As := [.int 91]) (st := []) (b := x1) (ci := 2) vc_X0_expect dX5_readSelectors_6 ml_RX5_100 rfl f6 rfl (Nat.le_of_ble_eq_true rfl) rfl (Nat.le_of_ble_eq_true rfl) hq (fun v h1 hq1 => ?_) (fun E h1 hq1 => ?_)
  rotate_left
  ·
    rcases hq1 with hq1 | ⟨E1, e1, hq1⟩
    · exact nomatch hq1.1
    · obtain rfl := Sum.inr.inj e1; exact q_xout (fun z hz => nomatch hz) hq1
  rcases hq1 with hq1 | ⟨E1, e1, hq1⟩
  rotate_left
  · exact nomatch e1
  obtain ⟨hv, hq⟩ := hq1
  obtain rfl := Sum.inl.inj hv
  clear hv
  obtain ⟨h6, eh6⟩ : ∃ z, z = h1 := ⟨_, rfl⟩
  rw [← eh6] at hq ⊢
  clear eh6
  show mv_rq l G mX5_readSelectors (d + 1) 9 [some (.ref u0), some (.ref u1), some (.int u2), none] [] h6 _
  refine q_iconst (v := 0) dX5_readSelectors_9 (by decide) ?_
  refine q_istore_n dX5_readSelectors_10 (Nat.le_of_ble_eq_true rfl) rfl ?_
  show mv_rq l G mX5_readSelectors (d + 1) 11 [some (.ref u0), some (.ref u1), some (.int u2), some (.int 0)] [] h6 _
  exact mv_weak (A := [some (.ref u0), some (.ref u1), some (.int u2), some (.int 0)]) (by repeat' constructor) hq
def w_X5_readSelectors_11 (l : Launch) (G : mv_G) (d : Nat) (u0 : Nat) (u1 : Nat) (u2 : Int32) (u3 : Int32) (h : mv_H) (Q : mv_O → mv_H → Prop) : Prop :=
  vob h u0 7 (
  mv_rq l G mX5_readSelector d 0 (mv_in [.ref u0, .int u2] 3) [] h (vB (fun E h1 => Q (.inr E) h1) (fun x14 h14 =>
  vob h14 u1 9 (
  mv_rq l G mX7_add d 0 (mv_in [.ref u1, .ref x14] 2) [] h14 (vU (fun E h1 => Q (.inr E) h1) (fun h17 =>
  vif (4 ≤ (u3 + 1)) (
    mv_rq l G mX5_readSelectors (d + 1) 40 [some (.ref u0), none, none, none] [] h17 Q) (
    vgb h17 u0 7 0 fun x29 =>
    vob h17 x29 2 (
    mv_rq l G mX0_passes d 0 (mv_in [.ref x29, .int 44] 2) [] h17 (vI (fun E h1 => Q (.inr E) h1) (fun x34 h34 =>
    vif (x34 = 0) (
      mv_rq l G mX5_readSelectors (d + 1) 40 [some (.ref u0), none, none, none] [] h34 Q) (
      mv_rq l G mX5_readSelectors (d + 1) 11 [some (.ref u0), some (.ref u1), some (.int u2), some (.int (u3 + 1))] [] h34 Q)))))))))))
theorem v_X5_readSelectors_11 {l : Launch} {G : mv_G} {d : Nat} {u0 : Nat} {u1 : Nat} {u2 : Int32} {u3 : Int32} {h : mv_H} {Q : mv_O → mv_H → Prop} (hG : mv_ok G) (hq : w_X5_readSelectors_11 l G d u0 u1 u2 u3 h Q) : mv_rq l G mX5_readSelectors (d + 1) 11 [some (.ref u0), some (.ref u1), some (.int u2), some (.int u3)] [] h Q := by
  unfold w_X5_readSelectors_11 at hq
  refine q_aload_n dX5_readSelectors_11 rfl ?_
  refine q_aload_n dX5_readSelectors_12 rfl ?_
  refine q_iload_n dX5_readSelectors_13 rfl ?_
  obtain ⟨⟨fs14, f14⟩, hq⟩ := vob_e hq
  refine q_cV (Y := mX5_readSelector) (As := [.int u2]) (st := [.ref u1]) (b := u0) (ci := 7) vc_X5_readSelector dX5_readSelectors_14 ml_RX5_104 rfl f14 rfl (Nat.le_of_ble_eq_true rfl) rfl (Nat.le_of_ble_eq_true rfl) hq (fun v h1 hq1 => ?_) (fun E h1 hq1 => ?_)
  rotate_left
  ·
    rcases hq1 with hq1 | ⟨E1, e1, hq1⟩
    · obtain ⟨_, z, _⟩ := hq1; exact nomatch z
    · obtain rfl := Sum.inr.inj e1; exact q_xout (fun z hz => nomatch hz) hq1
  rcases hq1 with hq1 | ⟨E1, e1, hq1⟩
  rotate_left
  · exact nomatch e1
  obtain ⟨x14, hv, hq⟩ := hq1
  obtain rfl := Sum.inl.inj hv
  clear hv
  obtain ⟨h14, eh14⟩ : ∃ z, z = h1 := ⟨_, rfl⟩
  rw [← eh14] at hq ⊢
  clear eh14
  show mv_rq l G mX5_readSelectors (d + 1) 17 [some (.ref u0), some (.ref u1), some (.int u2), some (.int u3)] [.ref x14, .ref u1] h14 _
  obtain ⟨⟨fs17, f17⟩, hq⟩ := vob_e hq
  refine q_cV (Y := mX7_add) (As := [.ref x14]) (st := []) (b := u1) (ci := 9) vc_X7_add dX5_readSelectors_17 ml_RX5_89 rfl f17 rfl (Nat.le_of_ble_eq_true rfl) rfl (Nat.le_of_ble_eq_true rfl) hq (fun v h1 hq1 => ?_) (fun E h1 hq1 => ?_)
  rotate_left
  ·
    rcases hq1 with hq1 | ⟨E1, e1, hq1⟩
    · exact nomatch hq1.1
    · obtain rfl := Sum.inr.inj e1; exact q_xout (fun z hz => nomatch hz) hq1
  rcases hq1 with hq1 | ⟨E1, e1, hq1⟩
  rotate_left
  · exact nomatch e1
  obtain ⟨hv, hq⟩ := hq1
  obtain rfl := Sum.inl.inj hv
  clear hv
  obtain ⟨h17, eh17⟩ : ∃ z, z = h1 := ⟨_, rfl⟩
  rw [← eh17] at hq ⊢
  clear eh17
  show mv_rq l G mX5_readSelectors (d + 1) 20 [some (.ref u0), some (.ref u1), some (.int u2), some (.int u3)] [] h17 _
  refine q_iinc dX5_readSelectors_20 rfl rfl ?_
  show mv_rq l G mX5_readSelectors (d + 1) 23 [some (.ref u0), some (.ref u1), some (.int u2), some (.int (u3 + 1))] [] h17 _
  refine q_iload_n dX5_readSelectors_23 rfl ?_
  refine q_iconst (v := 4) dX5_readSelectors_24 (by decide) ?_
  refine q_icmp_ge (tgt := 40) dX5_readSelectors_25 (by decide) (fun c25 => ?_) (fun c25 => ?_)
  ·
    have hq := vif_t hq c25
    exact mv_weak (A := [some (.ref u0), none, none, none]) (by repeat' constructor) hq
  ·
    have hq := vif_f hq c25
    refine q_aload_n dX5_readSelectors_28 rfl ?_
    obtain ⟨fs29, x29, f29, g29, hq⟩ := vgb_e hq
    refine q_getf (k := 0) (T := TX5) (C0 := RX5) (N := 2) (ci := 7) dX5_readSelectors_29 fl_RX5_12 rfl uin_RX5 (by decide) rfl f29 g29 ?_
    refine q_bipush (v := 44) dX5_readSelectors_32 (by decide) ?_
    obtain ⟨⟨fs34, f34⟩, hq⟩ := vob_e hq
    refine q_cV (Y := mX0_passes) (As := [.int 44]) (st := []) (b := x29) (ci := 2) vc_X0_passes dX5_readSelectors_34 ml_RX5_70 rfl f34 rfl (Nat.le_of_ble_eq_true rfl) rfl (Nat.le_of_ble_eq_true rfl) hq (fun v h1 hq1 => ?_) (fun E h1 hq1 => ?_)
    rotate_left
    ·
      rcases hq1 with hq1 | ⟨E1, e1, hq1⟩
      · obtain ⟨_, z, _⟩ := hq1; exact nomatch z
      · obtain rfl := Sum.inr.inj e1; exact q_xout (fun z hz => nomatch hz) hq1
    rcases hq1 with hq1 | ⟨E1, e1, hq1⟩
    rotate_left
    · exact nomatch e1
    obtain ⟨x34, hv, hq⟩ := hq1
    obtain rfl := Sum.inl.inj hv
    clear hv
    obtain ⟨h34, eh34⟩ : ∃ z, z = h1 := ⟨_, rfl⟩
    rw [← eh34] at hq ⊢
    clear eh34
    show mv_rq l G mX5_readSelectors (d + 1) 37 [some (.ref u0), some (.ref u1), some (.int u2), some (.int (u3 + 1))] [.int x34] h34 _
    refine q_if_ne (tgt := 11) dX5_readSelectors_37 (by decide) (fun c37 => ?_) (fun c37 => ?_)
    ·
      have hq := vif_f hq c37
      exact mv_weak (A := [some (.ref u0), some (.ref u1), some (.int u2), some (.int (u3 + 1))]) (by repeat' constructor) hq
    ·
      have hq := vif_t hq c37
      exact mv_weak (A := [some (.ref u0), none, none, none]) (by repeat' constructor) hq
def w_X5_readSelectors_40 (l : Launch) (G : mv_G) (d : Nat) (u0 : Nat) (h : mv_H) (Q : mv_O → mv_H → Prop) : Prop :=
  vgb h u0 7 0 fun x41 =>
  vob h x41 2 (
  mv_rq l G mX0_expect d 0 (mv_in [.ref x41, .int 93] 2) [] h (vU (fun E h1 => Q (.inr E) h1) (fun h46 =>
  Q (.inl none) h46)))
theorem v_X5_readSelectors_40 {l : Launch} {G : mv_G} {d : Nat} {u0 : Nat} {h : mv_H} {Q : mv_O → mv_H → Prop} (hG : mv_ok G) (hq : w_X5_readSelectors_40 l G d u0 h Q) : mv_rq l G mX5_readSelectors (d + 1) 40 [some (.ref u0), none, none, none] [] h Q := by
  unfold w_X5_readSelectors_40 at hq
  refine q_aload_n dX5_readSelectors_40 rfl ?_
  obtain ⟨fs41, x41, f41, g41, hq⟩ := vgb_e hq
  refine q_getf (k := 0) (T := TX5) (C0 := RX5) (N := 2) (ci := 7) dX5_readSelectors_41 fl_RX5_12 rfl uin_RX5 (by decide) rfl f41 g41 ?_
  refine q_bipush (v := 93) dX5_readSelectors_44 (by decide) ?_
  obtain ⟨⟨fs46, f46⟩, hq⟩ := vob_e hq
  refine q_cV (Y := mX0_expect) (As := [.int 93]) (st := []) (b := x41) (ci := 2) vc_X0_expect dX5_readSelectors_46 ml_RX5_100 rfl f46 rfl (Nat.le_of_ble_eq_true rfl) rfl (Nat.le_of_ble_eq_true rfl) hq (fun v h1 hq1 => ?_) (fun E h1 hq1 => ?_)
  rotate_left
  ·
    rcases hq1 with hq1 | ⟨E1, e1, hq1⟩
    · exact nomatch hq1.1
    · obtain rfl := Sum.inr.inj e1; exact q_xout (fun z hz => nomatch hz) hq1
  rcases hq1 with hq1 | ⟨E1, e1, hq1⟩
  rotate_left
  · exact nomatch e1
  obtain ⟨hv, hq⟩ := hq1
  obtain rfl := Sum.inl.inj hv
  clear hv
  obtain ⟨h46, eh46⟩ : ∃ z, z = h1 := ⟨_, rfl⟩
  rw [← eh46] at hq ⊢
  clear eh46
  show mv_rq l G mX5_readSelectors (d + 1) 49 [some (.ref u0), none, none, none] [] h46 _
  exact q_vret dX5_readSelectors_49 rfl hq
def w_X5_readSelector (l : Launch) (G : mv_G) (d : Nat) (u0 : Nat) (u1 : Int32) (h : mv_H) (Q : mv_O → mv_H → Prop) : Prop :=
  vgb h u0 7 0 fun x1 =>
  vob h x1 2 (
  mv_rq l G mX0_look d 0 (mv_in [.ref x1] 1) [] h (vI (fun E h1 => Q (.inr E) h1) (fun x4 h4 =>
  vif (x4 = 39) (
    vnw h4 9 (.inr (10, [.int 0, .null, .int 0, .int 0, .int 0, .int 0, .int 0, .null, .null])) fun a48 h48 =>
    mv_rq l G mX8_init d 0 (mv_in [.ref a48, .int 0] 2) [] h48 (vU (fun E h1 => Q (.inr E) h1) (fun h53 =>
    vgb h53 u0 7 0 fun x59 =>
    vob h53 x59 2 (
    mv_rq l G mX0_readString d 0 (mv_in [.ref x59, .int 39, .int 39] 5) [] h53 (vB (fun E h1 => Q (.inr E) h1) (fun x66 h66 =>
    vpu G h66 a48 10 1 (.ref x66) fun h69 =>
    Q (.inl (some (.ref a48))) h69)))))) (
  vif (x4 = 42) (
    vgb h4 u0 7 0 fun x75 =>
    vob h4 x75 2 (
    mv_rq l G mX0_skip d 0 (mv_in [.ref x75] 1) [] h4 (vU (fun E h1 => Q (.inr E) h1) (fun h78 =>
    vnw h78 9 (.inr (10, [.int 0, .null, .int 0, .int 0, .int 0, .int 0, .int 0, .null, .null])) fun a81 h81 =>
    mv_rq l G mX8_init d 0 (mv_in [.ref a81, .int 1] 2) [] h81 (vU (fun E h1 => Q (.inr E) h1) (fun h86 =>
    Q (.inl (some (.ref a81))) h86)))))) (
  vif (x4 = 58) (
    vob h4 u0 7 (
    mv_rq l G mX5_readStretch d 0 (mv_in [.ref u0, .int 0, .int 0] 4) [] h4 (vB (fun E h1 => Q (.inr E) h1) (fun x122 h122 =>
    Q (.inl (some (.ref x122))) h122)))) (
  vif (x4 = 63) (
    vob h4 u0 7 (
    mv_rq l G mX5_open d 0 (mv_in [.ref u0, .int 63, .int u1] 3) [] h4 (vU (fun E h1 => Q (.inr E) h1) (fun h94 =>
    vnw h94 9 (.inr (10, [.int 0, .null, .int 0, .int 0, .int 0, .int 0, .int 0, .null, .null])) fun a97 h97 =>
    mv_rq l G mX8_init d 0 (mv_in [.ref a97, .int 4] 2) [] h97 (vU (fun E h1 => Q (.inr E) h1) (fun h102 =>
    vob h102 u0 7 (
    mv_rq l G mX5_readAny d 0 (mv_in [.ref u0, .int (u1 + 1)] 4) [] h102 (vB (fun E h1 => Q (.inr E) h1) (fun x111 h111 =>
    vpu G h111 a97 10 7 (.ref x111) fun h114 =>
    Q (.inl (some (.ref a97))) h114))))))))) (
    vob h4 u0 7 (
    mv_rq l G mX5_readPlaceOrStretch d 0 (mv_in [.ref u0] 3) [] h4 (vB (fun E h1 => Q (.inr E) h1) (fun x127 h127 =>
    Q (.inl (some (.ref x127))) h127))))))))))
theorem v_X5_readSelector {l : Launch} {G : mv_G} {d : Nat} {u0 : Nat} {u1 : Int32} {h : mv_H} {Q : mv_O → mv_H → Prop} (hG : mv_ok G) (hq : w_X5_readSelector l G d u0 u1 h Q) : mv_rq l G mX5_readSelector (d + 1) 0 (mv_in [.ref u0, .int u1] 3) [] h Q := by
  unfold w_X5_readSelector at hq
  show mv_rq l G mX5_readSelector (d + 1) 0 [some (.ref u0), some (.int u1), none] [] h _
  refine q_aload_n dX5_readSelector_0 rfl ?_
  obtain ⟨fs1, x1, f1, g1, hq⟩ := vgb_e hq
  refine q_getf (k := 0) (T := TX5) (C0 := RX5) (N := 2) (ci := 7) dX5_readSelector_1 fl_RX5_12 rfl uin_RX5 (by decide) rfl f1 g1 ?_
  obtain ⟨⟨fs4, f4⟩, hq⟩ := vob_e hq
  refine q_cV (Y := mX0_look) (As := []) (st := []) (b := x1) (ci := 2) vc_X0_look dX5_readSelector_4 ml_RX5_26 rfl f4 rfl (Nat.le_of_ble_eq_true rfl) rfl (Nat.le_of_ble_eq_true rfl) hq (fun v h1 hq1 => ?_) (fun E h1 hq1 => ?_)
  rotate_left
  ·
    rcases hq1 with hq1 | ⟨E1, e1, hq1⟩
    · obtain ⟨_, z, _⟩ := hq1; exact nomatch z
    · obtain rfl := Sum.inr.inj e1; exact q_xout (fun z hz => nomatch hz) hq1
  rcases hq1 with hq1 | ⟨E1, e1, hq1⟩
  rotate_left
  · exact nomatch e1
  obtain ⟨x4, hv, hq⟩ := hq1
  obtain rfl := Sum.inl.inj hv
  clear hv
  obtain ⟨h4, eh4⟩ : ∃ z, z = h1 := ⟨_, rfl⟩
  rw [← eh4] at hq ⊢
  clear eh4
  show mv_rq l G mX5_readSelector (d + 1) 7 [some (.ref u0), some (.int u1), none] [.int x4] h4 _
  by_cases c7_0 : x4 = 39
  ·
    have hq := vif_t hq c7_0
    have t7 := md_ti (i := 39) (by decide) c7_0
    refine q_lookup (off := 41) (tgt := 48) dX5_readSelector_7 (by decide) (by rw [t7]; rfl) (by decide) ?_
    obtain ⟨a48, h48, ea48, eh48, hq⟩ := vnw_e hq
    refine q_new (fs := [.int 0, .null, .int 0, .int 0, .int 0, .int 0, .int 0, .null, .null]) (ci := 10) (T := TX8) (N := 9) tyX8 tyX8_ok dX5_readSelector_48 cl_RX5_85 inst_RX8 init_RX8 uin_RX8 rfl (by decide) ?_
    rw [← eh48, ← ea48]
    show mv_rq l G mX5_readSelector (d + 1) 51 [some (.ref u0), some (.int u1), none] [.ref a48] h48 _
    refine q_dup dX5_readSelector_51 rfl ?_
    refine q_iconst (v := 0) dX5_readSelector_52 (by decide) ?_
    refine q_cI (Y := mX8_init) (As := [.int 0]) (st := [.ref a48]) (b := a48) ic_X8_init dX5_readSelector_53 ml_RX5_87 rfl (Nat.le_of_ble_eq_true rfl) rfl (Nat.le_of_ble_eq_true rfl) hq (fun v h1 hq1 => ?_) (fun E h1 hq1 => ?_)
    rotate_left
    ·
      rcases hq1 with hq1 | ⟨E1, e1, hq1⟩
      · exact nomatch hq1.1
      · obtain rfl := Sum.inr.inj e1; exact q_xout (fun z hz => nomatch hz) hq1
    rcases hq1 with hq1 | ⟨E1, e1, hq1⟩
    rotate_left
    · exact nomatch e1
    obtain ⟨hv, hq⟩ := hq1
    obtain rfl := Sum.inl.inj hv
    clear hv
    obtain ⟨h53, eh53⟩ : ∃ z, z = h1 := ⟨_, rfl⟩
    rw [← eh53] at hq ⊢
    clear eh53
    show mv_rq l G mX5_readSelector (d + 1) 56 [some (.ref u0), some (.int u1), none] [.ref a48] h53 _
    refine q_astore_n dX5_readSelector_56 (Nat.le_of_ble_eq_true rfl) rfl ?_
    show mv_rq l G mX5_readSelector (d + 1) 57 [some (.ref u0), some (.int u1), some (.ref a48)] [] h53 _
    refine q_aload_n dX5_readSelector_57 rfl ?_
    refine q_aload_n dX5_readSelector_58 rfl ?_
    obtain ⟨fs59, x59, f59, g59, hq⟩ := vgb_e hq
    refine q_getf (k := 0) (T := TX5) (C0 := RX5) (N := 2) (ci := 7) dX5_readSelector_59 fl_RX5_12 rfl uin_RX5 (by decide) rfl f59 g59 ?_
    refine q_bipush (v := 39) dX5_readSelector_62 (by decide) ?_
    refine q_bipush (v := 39) dX5_readSelector_64 (by decide) ?_
    obtain ⟨⟨fs66, f66⟩, hq⟩ := vob_e hq
    refine q_cV (Y := mX0_readString) (As := [.int 39, .int 39]) (st := [.ref a48]) (b := x59) (ci := 2) vc_X0_readString dX5_readSelector_66 ml_RX5_108 rfl f66 rfl (Nat.le_of_ble_eq_true rfl) rfl (Nat.le_of_ble_eq_true rfl) hq (fun v h1 hq1 => ?_) (fun E h1 hq1 => ?_)
    rotate_left
    ·
      rcases hq1 with hq1 | ⟨E1, e1, hq1⟩
      · obtain ⟨_, z, _⟩ := hq1; exact nomatch z
      · obtain rfl := Sum.inr.inj e1; exact q_xout (fun z hz => nomatch hz) hq1
    rcases hq1 with hq1 | ⟨E1, e1, hq1⟩
    rotate_left
    · exact nomatch e1
    obtain ⟨x66, hv, hq⟩ := hq1
    obtain rfl := Sum.inl.inj hv
    clear hv
    obtain ⟨h66, eh66⟩ : ∃ z, z = h1 := ⟨_, rfl⟩
    rw [← eh66] at hq ⊢
    clear eh66
    show mv_rq l G mX5_readSelector (d + 1) 69 [some (.ref u0), some (.int u1), some (.ref a48)] [.ref x66, .ref a48] h66 _
    obtain ⟨fs69, h69, f69, b69, l69, e69, hq⟩ := vpu_e hq
    refine q_putf (k := 1) (T := TX8) (C0 := RX8) (N := 9) (ci := 10) (ty := (.object "java/lang/String")) tyX8 tyX8_ok nmX8 dX5_readSelector_69 fl_RX5_96 rfl uin_RX8 (by decide) rfl rfl (by decide +kernel) rfl rfl b69 f69 l69 ?_
    rw [← e69]
    show mv_rq l G mX5_readSelector (d + 1) 72 [some (.ref u0), some (.int u1), some (.ref a48)] [] h69 _
    refine q_aload_n dX5_readSelector_72 rfl ?_
    exact q_aret (rt := (.object "TreePaths$Selector")) dX5_readSelector_73 rfl (Or.inl ⟨_, rfl⟩) (Or.inr ⟨_, rfl⟩) hq
  ·
    have hq := vif_f hq c7_0
    by_cases c7_1 : x4 = 42
    ·
      have hq := vif_t hq c7_1
      have t7 := md_ti (i := 42) (by decide) c7_1
      refine q_lookup (off := 67) (tgt := 74) dX5_readSelector_7 (by decide) (by rw [t7]; rfl) (by decide) ?_
      refine q_aload_n dX5_readSelector_74 rfl ?_
      obtain ⟨fs75, x75, f75, g75, hq⟩ := vgb_e hq
      refine q_getf (k := 0) (T := TX5) (C0 := RX5) (N := 2) (ci := 7) dX5_readSelector_75 fl_RX5_12 rfl uin_RX5 (by decide) rfl f75 g75 ?_
      obtain ⟨⟨fs78, f78⟩, hq⟩ := vob_e hq
      refine q_cV (Y := mX0_skip) (As := []) (st := []) (b := x75) (ci := 2) vc_X0_skip dX5_readSelector_78 ml_RX5_55 rfl f78 rfl (Nat.le_of_ble_eq_true rfl) rfl (Nat.le_of_ble_eq_true rfl) hq (fun v h1 hq1 => ?_) (fun E h1 hq1 => ?_)
      rotate_left
      ·
        rcases hq1 with hq1 | ⟨E1, e1, hq1⟩
        · exact nomatch hq1.1
        · obtain rfl := Sum.inr.inj e1; exact q_xout (fun z hz => nomatch hz) hq1
      rcases hq1 with hq1 | ⟨E1, e1, hq1⟩
      rotate_left
      · exact nomatch e1
      obtain ⟨hv, hq⟩ := hq1
      obtain rfl := Sum.inl.inj hv
      clear hv
      obtain ⟨h78, eh78⟩ : ∃ z, z = h1 := ⟨_, rfl⟩
      rw [← eh78] at hq ⊢
      clear eh78
      show mv_rq l G mX5_readSelector (d + 1) 81 [some (.ref u0), some (.int u1), none] [] h78 _
      obtain ⟨a81, h81, ea81, eh81, hq⟩ := vnw_e hq
      refine q_new (fs := [.int 0, .null, .int 0, .int 0, .int 0, .int 0, .int 0, .null, .null]) (ci := 10) (T := TX8) (N := 9) tyX8 tyX8_ok dX5_readSelector_81 cl_RX5_85 inst_RX8 init_RX8 uin_RX8 rfl (by decide) ?_
      rw [← eh81, ← ea81]
      show mv_rq l G mX5_readSelector (d + 1) 84 [some (.ref u0), some (.int u1), none] [.ref a81] h81 _
      refine q_dup dX5_readSelector_84 rfl ?_
      refine q_iconst (v := 1) dX5_readSelector_85 (by decide) ?_
      refine q_cI (Y := mX8_init) (As := [.int 1]) (st := [.ref a81]) (b := a81) ic_X8_init dX5_readSelector_86 ml_RX5_87 rfl (Nat.le_of_ble_eq_true rfl) rfl (Nat.le_of_ble_eq_true rfl) hq (fun v h1 hq1 => ?_) (fun E h1 hq1 => ?_)
      rotate_left
      ·
        rcases hq1 with hq1 | ⟨E1, e1, hq1⟩
        · exact nomatch hq1.1
        · obtain rfl := Sum.inr.inj e1; exact q_xout (fun z hz => nomatch hz) hq1
      rcases hq1 with hq1 | ⟨E1, e1, hq1⟩
      rotate_left
      · exact nomatch e1
      obtain ⟨hv, hq⟩ := hq1
      obtain rfl := Sum.inl.inj hv
      clear hv
      obtain ⟨h86, eh86⟩ : ∃ z, z = h1 := ⟨_, rfl⟩
      rw [← eh86] at hq ⊢
      clear eh86
      show mv_rq l G mX5_readSelector (d + 1) 89 [some (.ref u0), some (.int u1), none] [.ref a81] h86 _
      exact q_aret (rt := (.object "TreePaths$Selector")) dX5_readSelector_89 rfl (Or.inl ⟨_, rfl⟩) (Or.inr ⟨_, rfl⟩) hq
    ·
      have hq := vif_f hq c7_1
      by_cases c7_2 : x4 = 58
      ·
        have hq := vif_t hq c7_2
        have t7 := md_ti (i := 58) (by decide) c7_2
        refine q_lookup (off := 112) (tgt := 119) dX5_readSelector_7 (by decide) (by rw [t7]; rfl) (by decide) ?_
        refine q_aload_n dX5_readSelector_119 rfl ?_
        refine q_iconst (v := 0) dX5_readSelector_120 (by decide) ?_
        refine q_iconst (v := 0) dX5_readSelector_121 (by decide) ?_
        obtain ⟨⟨fs122, f122⟩, hq⟩ := vob_e hq
        refine q_cV (Y := mX5_readStretch) (As := [.int 0, .int 0]) (st := []) (b := u0) (ci := 7) vc_X5_readStretch dX5_readSelector_122 ml_RX5_124 rfl f122 rfl (Nat.le_of_ble_eq_true rfl) rfl (Nat.le_of_ble_eq_true rfl) hq (fun v h1 hq1 => ?_) (fun E h1 hq1 => ?_)
        rotate_left
        ·
          rcases hq1 with hq1 | ⟨E1, e1, hq1⟩
          · obtain ⟨_, z, _⟩ := hq1; exact nomatch z
          · obtain rfl := Sum.inr.inj e1; exact q_xout (fun z hz => nomatch hz) hq1
        rcases hq1 with hq1 | ⟨E1, e1, hq1⟩
        rotate_left
        · exact nomatch e1
        obtain ⟨x122, hv, hq⟩ := hq1
        obtain rfl := Sum.inl.inj hv
        clear hv
        obtain ⟨h122, eh122⟩ : ∃ z, z = h1 := ⟨_, rfl⟩
        rw [← eh122] at hq ⊢
        clear eh122
        show mv_rq l G mX5_readSelector (d + 1) 125 [some (.ref u0), some (.int u1), none] [.ref x122] h122 _
        exact q_aret (rt := (.object "TreePaths$Selector")) dX5_readSelector_125 rfl (Or.inl ⟨_, rfl⟩) (Or.inr ⟨_, rfl⟩) hq
      ·
        have hq := vif_f hq c7_2
        by_cases c7_3 : x4 = 63
        ·
          have hq := vif_t hq c7_3
          have t7 := md_ti (i := 63) (by decide) c7_3
          refine q_lookup (off := 83) (tgt := 90) dX5_readSelector_7 (by decide) (by rw [t7]; rfl) (by decide) ?_
          refine q_aload_n dX5_readSelector_90 rfl ?_
          refine q_bipush (v := 63) dX5_readSelector_91 (by decide) ?_
          refine q_iload_n dX5_readSelector_93 rfl ?_
          obtain ⟨⟨fs94, f94⟩, hq⟩ := vob_e hq
          refine q_cV (Y := mX5_open) (As := [.int 63, .int u1]) (st := []) (b := u0) (ci := 7) vc_X5_open dX5_readSelector_94 ml_RX5_112 rfl f94 rfl (Nat.le_of_ble_eq_true rfl) rfl (Nat.le_of_ble_eq_true rfl) hq (fun v h1 hq1 => ?_) (fun E h1 hq1 => ?_)
          rotate_left
          ·
            rcases hq1 with hq1 | ⟨E1, e1, hq1⟩
            · exact nomatch hq1.1
            · obtain rfl := Sum.inr.inj e1; exact q_xout (fun z hz => nomatch hz) hq1
          rcases hq1 with hq1 | ⟨E1, e1, hq1⟩
          rotate_left
          · exact nomatch e1
          obtain ⟨hv, hq⟩ := hq1
          obtain rfl := Sum.inl.inj hv
          clear hv
          obtain ⟨h94, eh94⟩ : ∃ z, z = h1 := ⟨_, rfl⟩
          rw [← eh94] at hq ⊢
          clear eh94
          show mv_rq l G mX5_readSelector (d + 1) 97 [some (.ref u0), some (.int u1), none] [] h94 _
          obtain ⟨a97, h97, ea97, eh97, hq⟩ := vnw_e hq
          refine q_new (fs := [.int 0, .null, .int 0, .int 0, .int 0, .int 0, .int 0, .null, .null]) (ci := 10) (T := TX8) (N := 9) tyX8 tyX8_ok dX5_readSelector_97 cl_RX5_85 inst_RX8 init_RX8 uin_RX8 rfl (by decide) ?_
          rw [← eh97, ← ea97]
          show mv_rq l G mX5_readSelector (d + 1) 100 [some (.ref u0), some (.int u1), none] [.ref a97] h97 _
          refine q_dup dX5_readSelector_100 rfl ?_
          refine q_iconst (v := 4) dX5_readSelector_101 (by decide) ?_
          refine q_cI (Y := mX8_init) (As := [.int 4]) (st := [.ref a97]) (b := a97) ic_X8_init dX5_readSelector_102 ml_RX5_87 rfl (Nat.le_of_ble_eq_true rfl) rfl (Nat.le_of_ble_eq_true rfl) hq (fun v h1 hq1 => ?_) (fun E h1 hq1 => ?_)
          rotate_left
          ·
            rcases hq1 with hq1 | ⟨E1, e1, hq1⟩
            · exact nomatch hq1.1
            · obtain rfl := Sum.inr.inj e1; exact q_xout (fun z hz => nomatch hz) hq1
          rcases hq1 with hq1 | ⟨E1, e1, hq1⟩
          rotate_left
          · exact nomatch e1
          obtain ⟨hv, hq⟩ := hq1
          obtain rfl := Sum.inl.inj hv
          clear hv
          obtain ⟨h102, eh102⟩ : ∃ z, z = h1 := ⟨_, rfl⟩
          rw [← eh102] at hq ⊢
          clear eh102
          show mv_rq l G mX5_readSelector (d + 1) 105 [some (.ref u0), some (.int u1), none] [.ref a97] h102 _
          refine q_astore_n dX5_readSelector_105 (Nat.le_of_ble_eq_true rfl) rfl ?_
          show mv_rq l G mX5_readSelector (d + 1) 106 [some (.ref u0), some (.int u1), some (.ref a97)] [] h102 _
          refine q_aload_n dX5_readSelector_106 rfl ?_
          refine q_aload_n dX5_readSelector_107 rfl ?_
          refine q_iload_n dX5_readSelector_108 rfl ?_
          refine q_iconst (v := 1) dX5_readSelector_109 (by decide) ?_
          refine q_iadd dX5_readSelector_110 ?_
          obtain ⟨⟨fs111, f111⟩, hq⟩ := vob_e hq
          refine q_cV (Y := mX5_readAny) (As := [.int (u1 + 1)]) (st := [.ref a97]) (b := u0) (ci := 7) vc_X5_readAny dX5_readSelector_111 ml_RX5_116 rfl f111 rfl (Nat.le_of_ble_eq_true rfl) rfl (Nat.le_of_ble_eq_true rfl) hq (fun v h1 hq1 => ?_) (fun E h1 hq1 => ?_)
          rotate_left
          ·
            rcases hq1 with hq1 | ⟨E1, e1, hq1⟩
            · obtain ⟨_, z, _⟩ := hq1; exact nomatch z
            · obtain rfl := Sum.inr.inj e1; exact q_xout (fun z hz => nomatch hz) hq1
          rcases hq1 with hq1 | ⟨E1, e1, hq1⟩
          rotate_left
          · exact nomatch e1
          obtain ⟨x111, hv, hq⟩ := hq1
          obtain rfl := Sum.inl.inj hv
          clear hv
          obtain ⟨h111, eh111⟩ : ∃ z, z = h1 := ⟨_, rfl⟩
          rw [← eh111] at hq ⊢
          clear eh111
          show mv_rq l G mX5_readSelector (d + 1) 114 [some (.ref u0), some (.int u1), some (.ref a97)] [.ref x111, .ref a97] h111 _
          obtain ⟨fs114, h114, f114, b114, l114, e114, hq⟩ := vpu_e hq
          refine q_putf (k := 7) (T := TX8) (C0 := RX8) (N := 9) (ci := 10) (ty := (.object "TreePaths$Test")) tyX8 tyX8_ok nmX8 dX5_readSelector_114 fl_RX5_120 rfl uin_RX8 (by decide) rfl rfl (by decide +kernel) rfl rfl b114 f114 l114 ?_
          rw [← e114]
          show mv_rq l G mX5_readSelector (d + 1) 117 [some (.ref u0), some (.int u1), some (.ref a97)] [] h114 _
          refine q_aload_n dX5_readSelector_117 rfl ?_
          exact q_aret (rt := (.object "TreePaths$Selector")) dX5_readSelector_118 rfl (Or.inl ⟨_, rfl⟩) (Or.inr ⟨_, rfl⟩) hq
        ·
          have hq := vif_f hq c7_3
          refine q_lookup (off := 119) (tgt := 126) dX5_readSelector_7 (by decide) (by have e0 := md_tn (i := 39) (by decide) c7_0; have e1 := md_tn (i := 42) (by decide) c7_1; have e2 := md_tn (i := 58) (by decide) c7_2; have e3 := md_tn (i := 63) (by decide) c7_3; simp [Op.lookupswitch.offset, e0.symm, e1.symm, e2.symm, e3.symm]) (by decide) ?_
          refine q_aload_n dX5_readSelector_126 rfl ?_
          obtain ⟨⟨fs127, f127⟩, hq⟩ := vob_e hq
          refine q_cV (Y := mX5_readPlaceOrStretch) (As := []) (st := []) (b := u0) (ci := 7) vc_X5_readPlaceOrStretch dX5_readSelector_127 ml_RX5_128 rfl f127 rfl (Nat.le_of_ble_eq_true rfl) rfl (Nat.le_of_ble_eq_true rfl) hq (fun v h1 hq1 => ?_) (fun E h1 hq1 => ?_)
          rotate_left
          ·
            rcases hq1 with hq1 | ⟨E1, e1, hq1⟩
            · obtain ⟨_, z, _⟩ := hq1; exact nomatch z
            · obtain rfl := Sum.inr.inj e1; exact q_xout (fun z hz => nomatch hz) hq1
          rcases hq1 with hq1 | ⟨E1, e1, hq1⟩
          rotate_left
          · exact nomatch e1
          obtain ⟨x127, hv, hq⟩ := hq1
          obtain rfl := Sum.inl.inj hv
          clear hv
          obtain ⟨h127, eh127⟩ : ∃ z, z = h1 := ⟨_, rfl⟩
          rw [← eh127] at hq ⊢
          clear eh127
          show mv_rq l G mX5_readSelector (d + 1) 130 [some (.ref u0), some (.int u1), none] [.ref x127] h127 _
          exact q_aret (rt := (.object "TreePaths$Selector")) dX5_readSelector_130 rfl (Or.inl ⟨_, rfl⟩) (Or.inr ⟨_, rfl⟩) hq
def w_X5_readPlaceOrStretch (l : Launch) (G : mv_G) (d : Nat) (u0 : Nat) (h : mv_H) (Q : mv_O → mv_H → Prop) : Prop :=
  vgb h u0 7 0 fun x1 =>
  vob h x1 2 (
  mv_rq l G mX0_readNumber d 0 (mv_in [.ref x1, .int 3] 6) [] h (vI (fun E h1 => Q (.inr E) h1) (fun x5 h5 =>
  vgb h5 u0 7 0 fun x10 =>
  vob h5 x10 2 (
  mv_rq l G mX0_look d 0 (mv_in [.ref x10] 1) [] h5 (vI (fun E h1 => Q (.inr E) h1) (fun x13 h13 =>
  vif (x13 = 58) (
    vob h13 u0 7 (
    mv_rq l G mX5_readStretch d 0 (mv_in [.ref u0, .int 1, .int x5] 4) [] h13 (vB (fun E h1 => Q (.inr E) h1) (fun x24 h24 =>
    Q (.inl (some (.ref x24))) h24)))) (
    vnw h13 9 (.inr (10, [.int 0, .null, .int 0, .int 0, .int 0, .int 0, .int 0, .null, .null])) fun a28 h28 =>
    mv_rq l G mX8_init d 0 (mv_in [.ref a28, .int 2] 2) [] h28 (vU (fun E h1 => Q (.inr E) h1) (fun h33 =>
    vpu G h33 a28 10 2 (.int x5) fun h39 =>
    Q (.inl (some (.ref a28))) h39)))))))))
theorem v_X5_readPlaceOrStretch {l : Launch} {G : mv_G} {d : Nat} {u0 : Nat} {h : mv_H} {Q : mv_O → mv_H → Prop} (hG : mv_ok G) (hq : w_X5_readPlaceOrStretch l G d u0 h Q) : mv_rq l G mX5_readPlaceOrStretch (d + 1) 0 (mv_in [.ref u0] 3) [] h Q := by
  unfold w_X5_readPlaceOrStretch at hq
  show mv_rq l G mX5_readPlaceOrStretch (d + 1) 0 [some (.ref u0), none, none] [] h _
  refine q_aload_n dX5_readPlaceOrStretch_0 rfl ?_
  obtain ⟨fs1, x1, f1, g1, hq⟩ := vgb_e hq
  refine q_getf (k := 0) (T := TX5) (C0 := RX5) (N := 2) (ci := 7) dX5_readPlaceOrStretch_1 fl_RX5_12 rfl uin_RX5 (by decide) rfl f1 g1 ?_
  refine q_iconst (v := 3) dX5_readPlaceOrStretch_4 (by decide) ?_
  obtain ⟨⟨fs5, f5⟩, hq⟩ := vob_e hq
  refine q_cV (Y := mX0_readNumber) (As := [.int 3]) (st := []) (b := x1) (ci := 2) vc_X0_readNumber dX5_readPlaceOrStretch_5 ml_RX5_132 rfl f5 rfl (Nat.le_of_ble_eq_true rfl) rfl (Nat.le_of_ble_eq_true rfl) hq (fun v h1 hq1 => ?_) (fun E h1 hq1 => ?_)
  rotate_left
  ·
    rcases hq1 with hq1 | ⟨E1, e1, hq1⟩
    · obtain ⟨_, z, _⟩ := hq1; exact nomatch z
    · obtain rfl := Sum.inr.inj e1; exact q_xout (fun z hz => nomatch hz) hq1
  rcases hq1 with hq1 | ⟨E1, e1, hq1⟩
  rotate_left
  · exact nomatch e1
  obtain ⟨x5, hv, hq⟩ := hq1
  obtain rfl := Sum.inl.inj hv
  clear hv
  obtain ⟨h5, eh5⟩ : ∃ z, z = h1 := ⟨_, rfl⟩
  rw [← eh5] at hq ⊢
  clear eh5
  show mv_rq l G mX5_readPlaceOrStretch (d + 1) 8 [some (.ref u0), none, none] [.int x5] h5 _
  refine q_istore_n dX5_readPlaceOrStretch_8 (Nat.le_of_ble_eq_true rfl) rfl ?_
  show mv_rq l G mX5_readPlaceOrStretch (d + 1) 9 [some (.ref u0), some (.int x5), none] [] h5 _
  refine q_aload_n dX5_readPlaceOrStretch_9 rfl ?_
  obtain ⟨fs10, x10, f10, g10, hq⟩ := vgb_e hq
  refine q_getf (k := 0) (T := TX5) (C0 := RX5) (N := 2) (ci := 7) dX5_readPlaceOrStretch_10 fl_RX5_12 rfl uin_RX5 (by decide) rfl f10 g10 ?_
  obtain ⟨⟨fs13, f13⟩, hq⟩ := vob_e hq
  refine q_cV (Y := mX0_look) (As := []) (st := []) (b := x10) (ci := 2) vc_X0_look dX5_readPlaceOrStretch_13 ml_RX5_26 rfl f13 rfl (Nat.le_of_ble_eq_true rfl) rfl (Nat.le_of_ble_eq_true rfl) hq (fun v h1 hq1 => ?_) (fun E h1 hq1 => ?_)
  rotate_left
  ·
    rcases hq1 with hq1 | ⟨E1, e1, hq1⟩
    · obtain ⟨_, z, _⟩ := hq1; exact nomatch z
    · obtain rfl := Sum.inr.inj e1; exact q_xout (fun z hz => nomatch hz) hq1
  rcases hq1 with hq1 | ⟨E1, e1, hq1⟩
  rotate_left
  · exact nomatch e1
  obtain ⟨x13, hv, hq⟩ := hq1
  obtain rfl := Sum.inl.inj hv
  clear hv
  obtain ⟨h13, eh13⟩ : ∃ z, z = h1 := ⟨_, rfl⟩
  rw [← eh13] at hq ⊢
  clear eh13
  show mv_rq l G mX5_readPlaceOrStretch (d + 1) 16 [some (.ref u0), some (.int x5), none] [.int x13] h13 _
  refine q_bipush (v := 58) dX5_readPlaceOrStretch_16 (by decide) ?_
  refine q_icmp_ne (tgt := 28) dX5_readPlaceOrStretch_18 (by decide) (fun c18 => ?_) (fun c18 => ?_)
  ·
    have hq := vif_f hq c18
    obtain ⟨a28, h28, ea28, eh28, hq⟩ := vnw_e hq
    refine q_new (fs := [.int 0, .null, .int 0, .int 0, .int 0, .int 0, .int 0, .null, .null]) (ci := 10) (T := TX8) (N := 9) tyX8 tyX8_ok dX5_readPlaceOrStretch_28 cl_RX5_85 inst_RX8 init_RX8 uin_RX8 rfl (by decide) ?_
    rw [← eh28, ← ea28]
    show mv_rq l G mX5_readPlaceOrStretch (d + 1) 31 [some (.ref u0), some (.int x5), none] [.ref a28] h28 _
    refine q_dup dX5_readPlaceOrStretch_31 rfl ?_
    refine q_iconst (v := 2) dX5_readPlaceOrStretch_32 (by decide) ?_
    refine q_cI (Y := mX8_init) (As := [.int 2]) (st := [.ref a28]) (b := a28) ic_X8_init dX5_readPlaceOrStretch_33 ml_RX5_87 rfl (Nat.le_of_ble_eq_true rfl) rfl (Nat.le_of_ble_eq_true rfl) hq (fun v h1 hq1 => ?_) (fun E h1 hq1 => ?_)
    rotate_left
    ·
      rcases hq1 with hq1 | ⟨E1, e1, hq1⟩
      · exact nomatch hq1.1
      · obtain rfl := Sum.inr.inj e1; exact q_xout (fun z hz => nomatch hz) hq1
    rcases hq1 with hq1 | ⟨E1, e1, hq1⟩
    rotate_left
    · exact nomatch e1
    obtain ⟨hv, hq⟩ := hq1
    obtain rfl := Sum.inl.inj hv
    clear hv
    obtain ⟨h33, eh33⟩ : ∃ z, z = h1 := ⟨_, rfl⟩
    rw [← eh33] at hq ⊢
    clear eh33
    show mv_rq l G mX5_readPlaceOrStretch (d + 1) 36 [some (.ref u0), some (.int x5), none] [.ref a28] h33 _
    refine q_astore_n dX5_readPlaceOrStretch_36 (Nat.le_of_ble_eq_true rfl) rfl ?_
    show mv_rq l G mX5_readPlaceOrStretch (d + 1) 37 [some (.ref u0), some (.int x5), some (.ref a28)] [] h33 _
    refine q_aload_n dX5_readPlaceOrStretch_37 rfl ?_
    refine q_iload_n dX5_readPlaceOrStretch_38 rfl ?_
    obtain ⟨fs39, h39, f39, b39, l39, e39, hq⟩ := vpu_e hq
    refine q_putf (k := 2) (T := TX8) (C0 := RX8) (N := 9) (ci := 10) (ty := .int) tyX8 tyX8_ok nmX8 dX5_readPlaceOrStretch_39 fl_RX5_136 rfl uin_RX8 (by decide) rfl rfl (by decide +kernel) rfl rfl b39 f39 l39 ?_
    rw [← e39]
    show mv_rq l G mX5_readPlaceOrStretch (d + 1) 42 [some (.ref u0), some (.int x5), some (.ref a28)] [] h39 _
    refine q_aload_n dX5_readPlaceOrStretch_42 rfl ?_
    exact q_aret (rt := (.object "TreePaths$Selector")) dX5_readPlaceOrStretch_43 rfl (Or.inl ⟨_, rfl⟩) (Or.inr ⟨_, rfl⟩) hq
  ·
    have hq := vif_t hq c18
    refine q_aload_n dX5_readPlaceOrStretch_21 rfl ?_
    refine q_iconst (v := 1) dX5_readPlaceOrStretch_22 (by decide) ?_
    refine q_iload_n dX5_readPlaceOrStretch_23 rfl ?_
    obtain ⟨⟨fs24, f24⟩, hq⟩ := vob_e hq
    refine q_cV (Y := mX5_readStretch) (As := [.int 1, .int x5]) (st := []) (b := u0) (ci := 7) vc_X5_readStretch dX5_readPlaceOrStretch_24 ml_RX5_124 rfl f24 rfl (Nat.le_of_ble_eq_true rfl) rfl (Nat.le_of_ble_eq_true rfl) hq (fun v h1 hq1 => ?_) (fun E h1 hq1 => ?_)
    rotate_left
    ·
      rcases hq1 with hq1 | ⟨E1, e1, hq1⟩
      · obtain ⟨_, z, _⟩ := hq1; exact nomatch z
      · obtain rfl := Sum.inr.inj e1; exact q_xout (fun z hz => nomatch hz) hq1
    rcases hq1 with hq1 | ⟨E1, e1, hq1⟩
    rotate_left
    · exact nomatch e1
    obtain ⟨x24, hv, hq⟩ := hq1
    obtain rfl := Sum.inl.inj hv
    clear hv
    obtain ⟨h24, eh24⟩ : ∃ z, z = h1 := ⟨_, rfl⟩
    rw [← eh24] at hq ⊢
    clear eh24
    show mv_rq l G mX5_readPlaceOrStretch (d + 1) 27 [some (.ref u0), some (.int x5), none] [.ref x24] h24 _
    exact q_aret (rt := (.object "TreePaths$Selector")) dX5_readPlaceOrStretch_27 rfl (Or.inl ⟨_, rfl⟩) (Or.inr ⟨_, rfl⟩) hq
def w_X5_readStretch (l : Launch) (G : mv_G) (d : Nat) (u0 : Nat) (u1 : Int32) (u2 : Int32) (h : mv_H) (Q : mv_O → mv_H → Prop) : Prop :=
  vnw h 9 (.inr (10, [.int 0, .null, .int 0, .int 0, .int 0, .int 0, .int 0, .null, .null])) fun a0 h0 =>
  mv_rq l G mX8_init d 0 (mv_in [.ref a0, .int 3] 2) [] h0 (vU (fun E h1 => Q (.inr E) h1) (fun h5 =>
  narrow .boolean (.int u1) = .int u1 ∧ fits .boolean (.int u1) = true ∧
  vpu G h5 a0 10 5 (.int u1) fun h11 =>
  vpu G h11 a0 10 2 (.int u2) fun h16 =>
  vgb h16 u0 7 0 fun x20 =>
  vob h16 x20 2 (
  mv_rq l G mX0_expect d 0 (mv_in [.ref x20, .int 58] 2) [] h16 (vU (fun E h1 => Q (.inr E) h1) (fun h25 =>
  vgb h25 u0 7 0 fun x29 =>
  vob h25 x29 2 (
  mv_rq l G mX0_seesNumber d 0 (mv_in [.ref x29] 1) [] h25 (vI (fun E h1 => Q (.inr E) h1) (fun x32 h32 =>
  vif (x32 = 0) (
    mv_rq l G mX5_readStretch (d + 1) 55 [some (.ref u0), none, none, some (.ref a0)] [] h32 Q) (
    vpu G h32 a0 10 6 (.int 1) fun h40 =>
    vgb h40 u0 7 0 fun x45 =>
    vob h40 x45 2 (
    mv_rq l G mX0_readNumber d 0 (mv_in [.ref x45, .int 3] 6) [] h40 (vI (fun E h1 => Q (.inr E) h1) (fun x49 h49 =>
    vpu G h49 a0 10 3 (.int x49) fun h52 =>
    mv_rq l G mX5_readStretch (d + 1) 55 [some (.ref u0), none, none, some (.ref a0)] [] h52 Q))))))))))))
theorem v_X5_readStretch {l : Launch} {G : mv_G} {d : Nat} {u0 : Nat} {u1 : Int32} {u2 : Int32} {h : mv_H} {Q : mv_O → mv_H → Prop} (hG : mv_ok G) (hq : w_X5_readStretch l G d u0 u1 u2 h Q) : mv_rq l G mX5_readStretch (d + 1) 0 (mv_in [.ref u0, .int u1, .int u2] 4) [] h Q := by
  unfold w_X5_readStretch at hq
  show mv_rq l G mX5_readStretch (d + 1) 0 [some (.ref u0), some (.int u1), some (.int u2), none] [] h _
  obtain ⟨a0, h0, ea0, eh0, hq⟩ := vnw_e hq
  refine q_new (fs := [.int 0, .null, .int 0, .int 0, .int 0, .int 0, .int 0, .null, .null]) (ci := 10) (T := TX8) (N := 9) tyX8 tyX8_ok dX5_readStretch_0 cl_RX5_85 inst_RX8 init_RX8 uin_RX8 rfl (by decide) ?_
  rw [← eh0, ← ea0]
  show mv_rq l G mX5_readStretch (d + 1) 3 [some (.ref u0), some (.int u1), some (.int u2), none] [.ref a0] h0 _
  refine q_dup dX5_readStretch_3 rfl ?_
  refine q_iconst (v := 3) dX5_readStretch_4 (by decide) ?_
  refine q_cI (Y := mX8_init) (As := [.int 3]) (st := [.ref a0]) (b := a0) ic_X8_init dX5_readStretch_5 ml_RX5_87 rfl (Nat.le_of_ble_eq_true rfl) rfl (Nat.le_of_ble_eq_true rfl) hq (fun v h1 hq1 => ?_) (fun E h1 hq1 => ?_)
  rotate_left
  ·
    rcases hq1 with hq1 | ⟨E1, e1, hq1⟩
    · exact nomatch hq1.1
    · obtain rfl := Sum.inr.inj e1; exact q_xout (fun z hz => nomatch hz) hq1
  rcases hq1 with hq1 | ⟨E1, e1, hq1⟩
  rotate_left
  · exact nomatch e1
  obtain ⟨hv, hq⟩ := hq1
  obtain rfl := Sum.inl.inj hv
  clear hv
  obtain ⟨h5, eh5⟩ : ∃ z, z = h1 := ⟨_, rfl⟩
  rw [← eh5] at hq ⊢
  clear eh5
  show mv_rq l G mX5_readStretch (d + 1) 8 [some (.ref u0), some (.int u1), some (.int u2), none] [.ref a0] h5 _
  refine q_astore_n dX5_readStretch_8 (Nat.le_of_ble_eq_true rfl) rfl ?_
  show mv_rq l G mX5_readStretch (d + 1) 9 [some (.ref u0), some (.int u1), some (.int u2), some (.ref a0)] [] h5 _
  refine q_aload_n dX5_readStretch_9 rfl ?_
  refine q_iload_n dX5_readStretch_10 rfl ?_
  obtain ⟨nr11, ft11, hq⟩ := hq
  obtain ⟨fs11, h11, f11, b11, l11, e11, hq⟩ := vpu_e hq
  refine q_putf (k := 5) (T := TX8) (C0 := RX8) (N := 9) (ci := 10) (ty := .boolean) tyX8 tyX8_ok nmX8 dX5_readStretch_11 fl_RX5_139 rfl uin_RX8 (by decide) rfl rfl (by decide +kernel) nr11 ft11 b11 f11 l11 ?_
  rw [← e11]
  show mv_rq l G mX5_readStretch (d + 1) 14 [some (.ref u0), some (.int u1), some (.int u2), some (.ref a0)] [] h11 _
  refine q_aload_n dX5_readStretch_14 rfl ?_
  refine q_iload_n dX5_readStretch_15 rfl ?_
  obtain ⟨fs16, h16, f16, b16, l16, e16, hq⟩ := vpu_e hq
  refine q_putf (k := 2) (T := TX8) (C0 := RX8) (N := 9) (ci := 10) (ty := .int) tyX8 tyX8_ok nmX8 dX5_readStretch_16 fl_RX5_136 rfl uin_RX8 (by decide) rfl rfl (by decide +kernel) rfl rfl b16 f16 l16 ?_
  rw [← e16]
  show mv_rq l G mX5_readStretch (d + 1) 19 [some (.ref u0), some (.int u1), some (.int u2), some (.ref a0)] [] h16 _
  refine q_aload_n dX5_readStretch_19 rfl ?_
  obtain ⟨fs20, x20, f20, g20, hq⟩ := vgb_e hq
  refine q_getf (k := 0) (T := TX5) (C0 := RX5) (N := 2) (ci := 7) dX5_readStretch_20 fl_RX5_12 rfl uin_RX5 (by decide) rfl f20 g20 ?_
  refine q_bipush (v := 58) dX5_readStretch_23 (by decide) ?_
  obtain ⟨⟨fs25, f25⟩, hq⟩ := vob_e hq
  refine q_cV (Y := mX0_expect) (As := [.int 58]) (st := []) (b := x20) (ci := 2) vc_X0_expect dX5_readStretch_25 ml_RX5_100 rfl f25 rfl (Nat.le_of_ble_eq_true rfl) rfl (Nat.le_of_ble_eq_true rfl) hq (fun v h1 hq1 => ?_) (fun E h1 hq1 => ?_)
  rotate_left
  ·
    rcases hq1 with hq1 | ⟨E1, e1, hq1⟩
    · exact nomatch hq1.1
    · obtain rfl := Sum.inr.inj e1; exact q_xout (fun z hz => nomatch hz) hq1
  rcases hq1 with hq1 | ⟨E1, e1, hq1⟩
  rotate_left
  · exact nomatch e1
  obtain ⟨hv, hq⟩ := hq1
  obtain rfl := Sum.inl.inj hv
  clear hv
  obtain ⟨h25, eh25⟩ : ∃ z, z = h1 := ⟨_, rfl⟩
  rw [← eh25] at hq ⊢
  clear eh25
  show mv_rq l G mX5_readStretch (d + 1) 28 [some (.ref u0), some (.int u1), some (.int u2), some (.ref a0)] [] h25 _
  refine q_aload_n dX5_readStretch_28 rfl ?_
  obtain ⟨fs29, x29, f29, g29, hq⟩ := vgb_e hq
  refine q_getf (k := 0) (T := TX5) (C0 := RX5) (N := 2) (ci := 7) dX5_readStretch_29 fl_RX5_12 rfl uin_RX5 (by decide) rfl f29 g29 ?_
  obtain ⟨⟨fs32, f32⟩, hq⟩ := vob_e hq
  refine q_cV (Y := mX0_seesNumber) (As := []) (st := []) (b := x29) (ci := 2) vc_X0_seesNumber dX5_readStretch_32 ml_RX5_142 rfl f32 rfl (Nat.le_of_ble_eq_true rfl) rfl (Nat.le_of_ble_eq_true rfl) hq (fun v h1 hq1 => ?_) (fun E h1 hq1 => ?_)
  rotate_left
  ·
    rcases hq1 with hq1 | ⟨E1, e1, hq1⟩
    · obtain ⟨_, z, _⟩ := hq1; exact nomatch z
    · obtain rfl := Sum.inr.inj e1; exact q_xout (fun z hz => nomatch hz) hq1
  rcases hq1 with hq1 | ⟨E1, e1, hq1⟩
  rotate_left
  · exact nomatch e1
  obtain ⟨x32, hv, hq⟩ := hq1
  obtain rfl := Sum.inl.inj hv
  clear hv
  obtain ⟨h32, eh32⟩ : ∃ z, z = h1 := ⟨_, rfl⟩
  rw [← eh32] at hq ⊢
  clear eh32
  show mv_rq l G mX5_readStretch (d + 1) 35 [some (.ref u0), some (.int u1), some (.int u2), some (.ref a0)] [.int x32] h32 _
  refine q_if_eq (tgt := 55) dX5_readStretch_35 (by decide) (fun c35 => ?_) (fun c35 => ?_)
  ·
    have hq := vif_t hq c35
    exact mv_weak (A := [some (.ref u0), none, none, some (.ref a0)]) (by repeat' constructor) hq
  ·
    have hq := vif_f hq c35
    refine q_aload_n dX5_readStretch_38 rfl ?_
    refine q_iconst (v := 1) dX5_readStretch_39 (by decide) ?_
    obtain ⟨fs40, h40, f40, b40, l40, e40, hq⟩ := vpu_e hq
    refine q_putf (k := 6) (T := TX8) (C0 := RX8) (N := 9) (ci := 10) (ty := .boolean) tyX8 tyX8_ok nmX8 dX5_readStretch_40 fl_RX5_145 rfl uin_RX8 (by decide) rfl rfl (by decide +kernel) rfl rfl b40 f40 l40 ?_
    rw [← e40]
    show mv_rq l G mX5_readStretch (d + 1) 43 [some (.ref u0), some (.int u1), some (.int u2), some (.ref a0)] [] h40 _
    refine q_aload_n dX5_readStretch_43 rfl ?_
    refine q_aload_n dX5_readStretch_44 rfl ?_
    obtain ⟨fs45, x45, f45, g45, hq⟩ := vgb_e hq
    refine q_getf (k := 0) (T := TX5) (C0 := RX5) (N := 2) (ci := 7) dX5_readStretch_45 fl_RX5_12 rfl uin_RX5 (by decide) rfl f45 g45 ?_
    refine q_iconst (v := 3) dX5_readStretch_48 (by decide) ?_
    obtain ⟨⟨fs49, f49⟩, hq⟩ := vob_e hq
    refine q_cV (Y := mX0_readNumber) (As := [.int 3]) (st := [.ref a0]) (b := x45) (ci := 2) vc_X0_readNumber dX5_readStretch_49 ml_RX5_132 rfl f49 rfl (Nat.le_of_ble_eq_true rfl) rfl (Nat.le_of_ble_eq_true rfl) hq (fun v h1 hq1 => ?_) (fun E h1 hq1 => ?_)
    rotate_left
    ·
      rcases hq1 with hq1 | ⟨E1, e1, hq1⟩
      · obtain ⟨_, z, _⟩ := hq1; exact nomatch z
      · obtain rfl := Sum.inr.inj e1; exact q_xout (fun z hz => nomatch hz) hq1
    rcases hq1 with hq1 | ⟨E1, e1, hq1⟩
    rotate_left
    · exact nomatch e1
    obtain ⟨x49, hv, hq⟩ := hq1
    obtain rfl := Sum.inl.inj hv
    clear hv
    obtain ⟨h49, eh49⟩ : ∃ z, z = h1 := ⟨_, rfl⟩
    rw [← eh49] at hq ⊢
    clear eh49
    show mv_rq l G mX5_readStretch (d + 1) 52 [some (.ref u0), some (.int u1), some (.int u2), some (.ref a0)] [.int x49, .ref a0] h49 _
    obtain ⟨fs52, h52, f52, b52, l52, e52, hq⟩ := vpu_e hq
    refine q_putf (k := 3) (T := TX8) (C0 := RX8) (N := 9) (ci := 10) (ty := .int) tyX8 tyX8_ok nmX8 dX5_readStretch_52 fl_RX5_148 rfl uin_RX8 (by decide) rfl rfl (by decide +kernel) rfl rfl b52 f52 l52 ?_
    rw [← e52]
    show mv_rq l G mX5_readStretch (d + 1) 55 [some (.ref u0), some (.int u1), some (.int u2), some (.ref a0)] [] h52 _
    exact mv_weak (A := [some (.ref u0), none, none, some (.ref a0)]) (by repeat' constructor) hq
def w_X5_readStretch_55 (l : Launch) (G : mv_G) (d : Nat) (u0 : Nat) (u3 : Nat) (h : mv_H) (Q : mv_O → mv_H → Prop) : Prop :=
  vgb h u0 7 0 fun x56 =>
  vob h x56 2 (
  mv_rq l G mX0_passes d 0 (mv_in [.ref x56, .int 58] 2) [] h (vI (fun E h1 => Q (.inr E) h1) (fun x61 h61 =>
  vif (x61 = 0) (
    Q (.inl (some (.ref u3))) h61) (
    vgb h61 u0 7 0 fun x68 =>
    vob h61 x68 2 (
    mv_rq l G mX0_seesNumber d 0 (mv_in [.ref x68] 1) [] h61 (vI (fun E h1 => Q (.inr E) h1) (fun x71 h71 =>
    vif (x71 = 0) (
      Q (.inl (some (.ref u3))) h71) (
      vgb h71 u0 7 0 fun x79 =>
      vob h71 x79 2 (
      mv_rq l G mX0_readNumber d 0 (mv_in [.ref x79, .int 3] 6) [] h71 (vI (fun E h1 => Q (.inr E) h1) (fun x83 h83 =>
      vpu G h83 u3 10 4 (.int x83) fun h86 =>
      Q (.inl (some (.ref u3))) h86)))))))))))
theorem v_X5_readStretch_55 {l : Launch} {G : mv_G} {d : Nat} {u0 : Nat} {u3 : Nat} {h : mv_H} {Q : mv_O → mv_H → Prop} (hG : mv_ok G) (hq : w_X5_readStretch_55 l G d u0 u3 h Q) : mv_rq l G mX5_readStretch (d + 1) 55 [some (.ref u0), none, none, some (.ref u3)] [] h Q := by
  unfold w_X5_readStretch_55 at hq
  refine q_aload_n dX5_readStretch_55 rfl ?_
  obtain ⟨fs56, x56, f56, g56, hq⟩ := vgb_e hq
  refine q_getf (k := 0) (T := TX5) (C0 := RX5) (N := 2) (ci := 7) dX5_readStretch_56 fl_RX5_12 rfl uin_RX5 (by decide) rfl f56 g56 ?_
  refine q_bipush (v := 58) dX5_readStretch_59 (by decide) ?_
  obtain ⟨⟨fs61, f61⟩, hq⟩ := vob_e hq
  refine q_cV (Y := mX0_passes) (As := [.int 58]) (st := []) (b := x56) (ci := 2) vc_X0_passes dX5_readStretch_61 ml_RX5_70 rfl f61 rfl (Nat.le_of_ble_eq_true rfl) rfl (Nat.le_of_ble_eq_true rfl) hq (fun v h1 hq1 => ?_) (fun E h1 hq1 => ?_)
  rotate_left
  ·
    rcases hq1 with hq1 | ⟨E1, e1, hq1⟩
    · obtain ⟨_, z, _⟩ := hq1; exact nomatch z
    · obtain rfl := Sum.inr.inj e1; exact q_xout (fun z hz => nomatch hz) hq1
  rcases hq1 with hq1 | ⟨E1, e1, hq1⟩
  rotate_left
  · exact nomatch e1
  obtain ⟨x61, hv, hq⟩ := hq1
  obtain rfl := Sum.inl.inj hv
  clear hv
  obtain ⟨h61, eh61⟩ : ∃ z, z = h1 := ⟨_, rfl⟩
  rw [← eh61] at hq ⊢
  clear eh61
  show mv_rq l G mX5_readStretch (d + 1) 64 [some (.ref u0), none, none, some (.ref u3)] [.int x61] h61 _
  refine q_if_eq (tgt := 89) dX5_readStretch_64 (by decide) (fun c64 => ?_) (fun c64 => ?_)
  ·
    have hq := vif_t hq c64
    refine q_aload_n dX5_readStretch_89 rfl ?_
    exact q_aret (rt := (.object "TreePaths$Selector")) dX5_readStretch_90 rfl (Or.inl ⟨_, rfl⟩) (Or.inr ⟨_, rfl⟩) hq
  ·
    have hq := vif_f hq c64
    refine q_aload_n dX5_readStretch_67 rfl ?_
    obtain ⟨fs68, x68, f68, g68, hq⟩ := vgb_e hq
    refine q_getf (k := 0) (T := TX5) (C0 := RX5) (N := 2) (ci := 7) dX5_readStretch_68 fl_RX5_12 rfl uin_RX5 (by decide) rfl f68 g68 ?_
    obtain ⟨⟨fs71, f71⟩, hq⟩ := vob_e hq
    refine q_cV (Y := mX0_seesNumber) (As := []) (st := []) (b := x68) (ci := 2) vc_X0_seesNumber dX5_readStretch_71 ml_RX5_142 rfl f71 rfl (Nat.le_of_ble_eq_true rfl) rfl (Nat.le_of_ble_eq_true rfl) hq (fun v h1 hq1 => ?_) (fun E h1 hq1 => ?_)
    rotate_left
    ·
      rcases hq1 with hq1 | ⟨E1, e1, hq1⟩
      · obtain ⟨_, z, _⟩ := hq1; exact nomatch z
      · obtain rfl := Sum.inr.inj e1; exact q_xout (fun z hz => nomatch hz) hq1
    rcases hq1 with hq1 | ⟨E1, e1, hq1⟩
    rotate_left
    · exact nomatch e1
    obtain ⟨x71, hv, hq⟩ := hq1
    obtain rfl := Sum.inl.inj hv
    clear hv
    obtain ⟨h71, eh71⟩ : ∃ z, z = h1 := ⟨_, rfl⟩
    rw [← eh71] at hq ⊢
    clear eh71
    show mv_rq l G mX5_readStretch (d + 1) 74 [some (.ref u0), none, none, some (.ref u3)] [.int x71] h71 _
    refine q_if_eq (tgt := 89) dX5_readStretch_74 (by decide) (fun c74 => ?_) (fun c74 => ?_)
    ·
      have hq := vif_t hq c74
      refine q_aload_n dX5_readStretch_89 rfl ?_
      exact q_aret (rt := (.object "TreePaths$Selector")) dX5_readStretch_90 rfl (Or.inl ⟨_, rfl⟩) (Or.inr ⟨_, rfl⟩) hq
    ·
      have hq := vif_f hq c74
      refine q_aload_n dX5_readStretch_77 rfl ?_
      refine q_aload_n dX5_readStretch_78 rfl ?_
      obtain ⟨fs79, x79, f79, g79, hq⟩ := vgb_e hq
      refine q_getf (k := 0) (T := TX5) (C0 := RX5) (N := 2) (ci := 7) dX5_readStretch_79 fl_RX5_12 rfl uin_RX5 (by decide) rfl f79 g79 ?_
      refine q_iconst (v := 3) dX5_readStretch_82 (by decide) ?_
      obtain ⟨⟨fs83, f83⟩, hq⟩ := vob_e hq
      refine q_cV (Y := mX0_readNumber) (As := [.int 3]) (st := [.ref u3]) (b := x79) (ci := 2) vc_X0_readNumber dX5_readStretch_83 ml_RX5_132 rfl f83 rfl (Nat.le_of_ble_eq_true rfl) rfl (Nat.le_of_ble_eq_true rfl) hq (fun v h1 hq1 => ?_) (fun E h1 hq1 => ?_)
      rotate_left
      ·
        rcases hq1 with hq1 | ⟨E1, e1, hq1⟩
        · obtain ⟨_, z, _⟩ := hq1; exact nomatch z
        · obtain rfl := Sum.inr.inj e1; exact q_xout (fun z hz => nomatch hz) hq1
      rcases hq1 with hq1 | ⟨E1, e1, hq1⟩
      rotate_left
      · exact nomatch e1
      obtain ⟨x83, hv, hq⟩ := hq1
      obtain rfl := Sum.inl.inj hv
      clear hv
      obtain ⟨h83, eh83⟩ : ∃ z, z = h1 := ⟨_, rfl⟩
      rw [← eh83] at hq ⊢
      clear eh83
      show mv_rq l G mX5_readStretch (d + 1) 86 [some (.ref u0), none, none, some (.ref u3)] [.int x83, .ref u3] h83 _
      obtain ⟨fs86, h86, f86, b86, l86, e86, hq⟩ := vpu_e hq
      refine q_putf (k := 4) (T := TX8) (C0 := RX8) (N := 9) (ci := 10) (ty := .int) tyX8 tyX8_ok nmX8 dX5_readStretch_86 fl_RX5_151 rfl uin_RX8 (by decide) rfl rfl (by decide +kernel) rfl rfl b86 f86 l86 ?_
      rw [← e86]
      show mv_rq l G mX5_readStretch (d + 1) 89 [some (.ref u0), none, none, some (.ref u3)] [] h86 _
      refine q_aload_n dX5_readStretch_89 rfl ?_
      exact q_aret (rt := (.object "TreePaths$Selector")) dX5_readStretch_90 rfl (Or.inl ⟨_, rfl⟩) (Or.inr ⟨_, rfl⟩) hq
def w_X5_open (l : Launch) (G : mv_G) (d : Nat) (u0 : Nat) (u1 : Int32) (u2 : Int32) (h : mv_H) (Q : mv_O → mv_H → Prop) : Prop :=
  vgb h u0 7 0 fun x1 =>
  vob h x1 2 (
  mv_rq l G mX0_look d 0 (mv_in [.ref x1] 1) [] h (vI (fun E h1 => Q (.inr E) h1) (fun x4 h4 =>
  vif (x4 = u1) (
    vif (u2 < 4) (
      mv_rq l G mX5_open (d + 1) 30 [some (.ref u0), some (.int u1), none] [] h4 Q) (
      vgb h4 u0 7 0 fun x17 =>
      vgb h4 u0 7 0 fun x21 =>
      vgi h4 x21 2 1 fun x24 =>
      vob h4 x17 2 (
      mv_rq l G mX0_refuse d 0 (mv_in [.ref x17, .int x24] 2) [] h4 (vU (fun E h1 => Q (.inr E) h1) (fun h27 =>
      mv_rq l G mX5_open (d + 1) 30 [some (.ref u0), some (.int u1), none] [] h27 Q))))) (
    mv_rq l G mX5_open (d + 1) 30 [some (.ref u0), some (.int u1), none] [] h4 Q))))
theorem v_X5_open {l : Launch} {G : mv_G} {d : Nat} {u0 : Nat} {u1 : Int32} {u2 : Int32} {h : mv_H} {Q : mv_O → mv_H → Prop} (hG : mv_ok G) (hq : w_X5_open l G d u0 u1 u2 h Q) : mv_rq l G mX5_open (d + 1) 0 (mv_in [.ref u0, .int u1, .int u2] 3) [] h Q := by
  unfold w_X5_open at hq
  show mv_rq l G mX5_open (d + 1) 0 [some (.ref u0), some (.int u1), some (.int u2)] [] h _
  refine q_aload_n dX5_open_0 rfl ?_
  obtain ⟨fs1, x1, f1, g1, hq⟩ := vgb_e hq
  refine q_getf (k := 0) (T := TX5) (C0 := RX5) (N := 2) (ci := 7) dX5_open_1 fl_RX5_12 rfl uin_RX5 (by decide) rfl f1 g1 ?_
  obtain ⟨⟨fs4, f4⟩, hq⟩ := vob_e hq
  refine q_cV (Y := mX0_look) (As := []) (st := []) (b := x1) (ci := 2) vc_X0_look dX5_open_4 ml_RX5_26 rfl f4 rfl (Nat.le_of_ble_eq_true rfl) rfl (Nat.le_of_ble_eq_true rfl) hq (fun v h1 hq1 => ?_) (fun E h1 hq1 => ?_)
  rotate_left
  ·
    rcases hq1 with hq1 | ⟨E1, e1, hq1⟩
    · obtain ⟨_, z, _⟩ := hq1; exact nomatch z
    · obtain rfl := Sum.inr.inj e1; exact q_xout (fun z hz => nomatch hz) hq1
  rcases hq1 with hq1 | ⟨E1, e1, hq1⟩
  rotate_left
  · exact nomatch e1
  obtain ⟨x4, hv, hq⟩ := hq1
  obtain rfl := Sum.inl.inj hv
  clear hv
  obtain ⟨h4, eh4⟩ : ∃ z, z = h1 := ⟨_, rfl⟩
  rw [← eh4] at hq ⊢
  clear eh4
  show mv_rq l G mX5_open (d + 1) 7 [some (.ref u0), some (.int u1), some (.int u2)] [.int x4] h4 _
  refine q_iload_n dX5_open_7 rfl ?_
  refine q_icmp_ne (tgt := 30) dX5_open_8 (by decide) (fun c8 => ?_) (fun c8 => ?_)
  ·
    have hq := vif_f hq c8
    exact mv_weak (A := [some (.ref u0), some (.int u1), none]) (by repeat' constructor) hq
  ·
    have hq := vif_t hq c8
    refine q_iload_n dX5_open_11 rfl ?_
    refine q_iconst (v := 4) dX5_open_12 (by decide) ?_
    refine q_icmp_lt (tgt := 30) dX5_open_13 (by decide) (fun c13 => ?_) (fun c13 => ?_)
    ·
      have hq := vif_t hq c13
      exact mv_weak (A := [some (.ref u0), some (.int u1), none]) (by repeat' constructor) hq
    ·
      have hq := vif_f hq c13
      refine q_aload_n dX5_open_16 rfl ?_
      obtain ⟨fs17, x17, f17, g17, hq⟩ := vgb_e hq
      refine q_getf (k := 0) (T := TX5) (C0 := RX5) (N := 2) (ci := 7) dX5_open_17 fl_RX5_12 rfl uin_RX5 (by decide) rfl f17 g17 ?_
      refine q_aload_n dX5_open_20 rfl ?_
      obtain ⟨fs21, x21, f21, g21, hq⟩ := vgb_e hq
      refine q_getf (k := 0) (T := TX5) (C0 := RX5) (N := 2) (ci := 7) dX5_open_21 fl_RX5_12 rfl uin_RX5 (by decide) rfl f21 g21 ?_
      obtain ⟨fs24, x24, f24, g24, hq⟩ := vgi_e hq
      refine q_getf (k := 1) (T := TX0) (C0 := RX0) (N := 3) (ci := 2) dX5_open_24 fl_RX5_30 rfl uin_RX0 (by decide) rfl f24 g24 ?_
      obtain ⟨⟨fs27, f27⟩, hq⟩ := vob_e hq
      refine q_cV (Y := mX0_refuse) (As := [.int x24]) (st := []) (b := x17) (ci := 2) vc_X0_refuse dX5_open_27 ml_RX5_34 rfl f27 rfl (Nat.le_of_ble_eq_true rfl) rfl (Nat.le_of_ble_eq_true rfl) hq (fun v h1 hq1 => ?_) (fun E h1 hq1 => ?_)
      rotate_left
      ·
        rcases hq1 with hq1 | ⟨E1, e1, hq1⟩
        · exact nomatch hq1.1
        · obtain rfl := Sum.inr.inj e1; exact q_xout (fun z hz => nomatch hz) hq1
      rcases hq1 with hq1 | ⟨E1, e1, hq1⟩
      rotate_left
      · exact nomatch e1
      obtain ⟨hv, hq⟩ := hq1
      obtain rfl := Sum.inl.inj hv
      clear hv
      obtain ⟨h27, eh27⟩ : ∃ z, z = h1 := ⟨_, rfl⟩
      rw [← eh27] at hq ⊢
      clear eh27
      show mv_rq l G mX5_open (d + 1) 30 [some (.ref u0), some (.int u1), some (.int u2)] [] h27 _
      exact mv_weak (A := [some (.ref u0), some (.int u1), none]) (by repeat' constructor) hq
def w_X5_open_30 (l : Launch) (G : mv_G) (d : Nat) (u0 : Nat) (u1 : Int32) (h : mv_H) (Q : mv_O → mv_H → Prop) : Prop :=
  vgb h u0 7 0 fun x31 =>
  vob h x31 2 (
  mv_rq l G mX0_expect d 0 (mv_in [.ref x31, .int u1] 2) [] h (vU (fun E h1 => Q (.inr E) h1) (fun h35 =>
  Q (.inl none) h35)))
theorem v_X5_open_30 {l : Launch} {G : mv_G} {d : Nat} {u0 : Nat} {u1 : Int32} {h : mv_H} {Q : mv_O → mv_H → Prop} (hG : mv_ok G) (hq : w_X5_open_30 l G d u0 u1 h Q) : mv_rq l G mX5_open (d + 1) 30 [some (.ref u0), some (.int u1), none] [] h Q := by
  unfold w_X5_open_30 at hq
  refine q_aload_n dX5_open_30 rfl ?_
  obtain ⟨fs31, x31, f31, g31, hq⟩ := vgb_e hq
  refine q_getf (k := 0) (T := TX5) (C0 := RX5) (N := 2) (ci := 7) dX5_open_31 fl_RX5_12 rfl uin_RX5 (by decide) rfl f31 g31 ?_
  refine q_iload_n dX5_open_34 rfl ?_
  obtain ⟨⟨fs35, f35⟩, hq⟩ := vob_e hq
  refine q_cV (Y := mX0_expect) (As := [.int u1]) (st := []) (b := x31) (ci := 2) vc_X0_expect dX5_open_35 ml_RX5_100 rfl f35 rfl (Nat.le_of_ble_eq_true rfl) rfl (Nat.le_of_ble_eq_true rfl) hq (fun v h1 hq1 => ?_) (fun E h1 hq1 => ?_)
  rotate_left
  ·
    rcases hq1 with hq1 | ⟨E1, e1, hq1⟩
    · exact nomatch hq1.1
    · obtain rfl := Sum.inr.inj e1; exact q_xout (fun z hz => nomatch hz) hq1
  rcases hq1 with hq1 | ⟨E1, e1, hq1⟩
  rotate_left
  · exact nomatch e1
  obtain ⟨hv, hq⟩ := hq1
  obtain rfl := Sum.inl.inj hv
  clear hv
  obtain ⟨h35, eh35⟩ : ∃ z, z = h1 := ⟨_, rfl⟩
  rw [← eh35] at hq ⊢
  clear eh35
  show mv_rq l G mX5_open (d + 1) 38 [some (.ref u0), some (.int u1), none] [] h35 _
  exact q_vret dX5_open_38 rfl hq
def w_X5_readAny (l : Launch) (G : mv_G) (d : Nat) (u0 : Nat) (u1 : Int32) (h : mv_H) (Q : mv_O → mv_H → Prop) : Prop :=
  vnw h 8 (.inr (11, [.int 0, .null, .null, .null, .null, .null, .int 0, .null])) fun a0 h0 =>
  mv_rq l G mX9_init d 0 (mv_in [.ref a0, .int 0] 2) [] h0 (vU (fun E h1 => Q (.inr E) h1) (fun h5 =>
  vob h5 u0 7 (
  mv_rq l G mX5_readAll d 0 (mv_in [.ref u0, .int u1] 4) [] h5 (vB (fun E h1 => Q (.inr E) h1) (fun x12 h12 =>
  vob h12 a0 11 (
  mv_rq l G mX9_add d 0 (mv_in [.ref a0, .ref x12] 2) [] h12 (vU (fun E h1 => Q (.inr E) h1) (fun h15 =>
  mv_rq l G mX5_readAny (d + 1) 20 [some (.ref u0), some (.int u1), some (.ref a0), some (.int 0)] [] h15 Q))))))))
theorem v_X5_readAny {l : Launch} {G : mv_G} {d : Nat} {u0 : Nat} {u1 : Int32} {h : mv_H} {Q : mv_O → mv_H → Prop} (hG : mv_ok G) (hq : w_X5_readAny l G d u0 u1 h Q) : mv_rq l G mX5_readAny (d + 1) 0 (mv_in [.ref u0, .int u1] 4) [] h Q := by
  unfold w_X5_readAny at hq
  show mv_rq l G mX5_readAny (d + 1) 0 [some (.ref u0), some (.int u1), none, none] [] h _
  obtain ⟨a0, h0, ea0, eh0, hq⟩ := vnw_e hq
  refine q_new (fs := [.int 0, .null, .null, .null, .null, .null, .int 0, .null]) (ci := 11) (T := TX9) (N := 8) tyX9 tyX9_ok dX5_readAny_0 cl_RX5_154 inst_RX9 init_RX9 uin_RX9 rfl (by decide) ?_
  rw [← eh0, ← ea0]
  show mv_rq l G mX5_readAny (d + 1) 3 [some (.ref u0), some (.int u1), none, none] [.ref a0] h0 _
  refine q_dup dX5_readAny_3 rfl ?_
  refine q_iconst (v := 0) dX5_readAny_4 (by decide) ?_
  refine q_cI (Y := mX9_init) (As := [.int 0]) (st := [.ref a0]) (b := a0) ic_X9_init dX5_readAny_5 ml_RX5_156 rfl (Nat.le_of_ble_eq_true rfl) rfl (Nat.le_of_ble_eq_true rfl) hq (fun v h1 hq1 => ?_) (fun E h1 hq1 => ?_)
  rotate_left
  ·
    rcases hq1 with hq1 | ⟨E1, e1, hq1⟩
    · exact nomatch hq1.1
    · obtain rfl := Sum.inr.inj e1; exact q_xout (fun z hz => nomatch hz) hq1
  rcases hq1 with hq1 | ⟨E1, e1, hq1⟩
  rotate_left
  · exact nomatch e1
  obtain ⟨hv, hq⟩ := hq1
  obtain rfl := Sum.inl.inj hv
  clear hv
  obtain ⟨h5, eh5⟩ : ∃ z, z = h1 := ⟨_, rfl⟩
  rw [← eh5] at hq ⊢
  clear eh5
  show mv_rq l G mX5_readAny (d + 1) 8 [some (.ref u0), some (.int u1), none, none] [.ref a0] h5 _
  refine q_astore_n dX5_readAny_8 (Nat.le_of_ble_eq_true rfl) rfl ?_
  show mv_rq l G mX5_readAny (d + 1) 9 [some (.ref u0), some (.int u1), some (.ref a0), none] [] h5 _
  refine q_aload_n dX5_readAny_9 rfl ?_
  refine q_aload_n dX5_readAny_10 rfl ?_
  refine q_iload_n dX5_readAny_11 rfl ?_
  obtain ⟨⟨fs12, f12⟩, hq⟩ := vob_e hq
  refine q_cV (Y := mX5_readAll) (As := [.int u1]) (st := [.ref a0]) (b := u0) (ci := 7) vc_X5_readAll dX5_readAny_12 ml_RX5_157 rfl f12 rfl (Nat.le_of_ble_eq_true rfl) rfl (Nat.le_of_ble_eq_true rfl) hq (fun v h1 hq1 => ?_) (fun E h1 hq1 => ?_)
  rotate_left
  ·
    rcases hq1 with hq1 | ⟨E1, e1, hq1⟩
    · obtain ⟨_, z, _⟩ := hq1; exact nomatch z
    · obtain rfl := Sum.inr.inj e1; exact q_xout (fun z hz => nomatch hz) hq1
  rcases hq1 with hq1 | ⟨E1, e1, hq1⟩
  rotate_left
  · exact nomatch e1
  obtain ⟨x12, hv, hq⟩ := hq1
  obtain rfl := Sum.inl.inj hv
  clear hv
  obtain ⟨h12, eh12⟩ : ∃ z, z = h1 := ⟨_, rfl⟩
  rw [← eh12] at hq ⊢
  clear eh12
  show mv_rq l G mX5_readAny (d + 1) 15 [some (.ref u0), some (.int u1), some (.ref a0), none] [.ref x12, .ref a0] h12 _
  obtain ⟨⟨fs15, f15⟩, hq⟩ := vob_e hq
  refine q_cV (Y := mX9_add) (As := [.ref x12]) (st := []) (b := a0) (ci := 11) vc_X9_add dX5_readAny_15 ml_RX5_160 rfl f15 rfl (Nat.le_of_ble_eq_true rfl) rfl (Nat.le_of_ble_eq_true rfl) hq (fun v h1 hq1 => ?_) (fun E h1 hq1 => ?_)
  rotate_left
  ·
    rcases hq1 with hq1 | ⟨E1, e1, hq1⟩
    · exact nomatch hq1.1
    · obtain rfl := Sum.inr.inj e1; exact q_xout (fun z hz => nomatch hz) hq1
  rcases hq1 with hq1 | ⟨E1, e1, hq1⟩
  rotate_left
  · exact nomatch e1
  obtain ⟨hv, hq⟩ := hq1
  obtain rfl := Sum.inl.inj hv
  clear hv
  obtain ⟨h15, eh15⟩ : ∃ z, z = h1 := ⟨_, rfl⟩
  rw [← eh15] at hq ⊢
  clear eh15
  show mv_rq l G mX5_readAny (d + 1) 18 [some (.ref u0), some (.int u1), some (.ref a0), none] [] h15 _
  refine q_iconst (v := 0) dX5_readAny_18 (by decide) ?_
  refine q_istore_n dX5_readAny_19 (Nat.le_of_ble_eq_true rfl) rfl ?_
  show mv_rq l G mX5_readAny (d + 1) 20 [some (.ref u0), some (.int u1), some (.ref a0), some (.int 0)] [] h15 _
  exact mv_weak (A := [some (.ref u0), some (.int u1), some (.ref a0), some (.int 0)]) (by repeat' constructor) hq
def w_X5_readAny_20 (l : Launch) (G : mv_G) (d : Nat) (u0 : Nat) (u1 : Int32) (u2 : Nat) (u3 : Int32) (h : mv_H) (Q : mv_O → mv_H → Prop) : Prop :=
  vif (160 ≤ u3) (
    Q (.inl (some (.ref u2))) h) (
    vgb h u0 7 0 fun x28 =>
    vob h x28 2 (
    mv_rq l G mX0_passes d 0 (mv_in [.ref x28, .int 124] 2) [] h (vI (fun E h1 => Q (.inr E) h1) (fun x33 h33 =>
    vif (x33 = 0) (
      Q (.inl (some (.ref u2))) h33) (
      vgb h33 u0 7 0 fun x40 =>
      vob h33 x40 2 (
      mv_rq l G mX0_expect d 0 (mv_in [.ref x40, .int 124] 2) [] h33 (vU (fun E h1 => Q (.inr E) h1) (fun h45 =>
      vob h45 u0 7 (
      mv_rq l G mX5_readAll d 0 (mv_in [.ref u0, .int u1] 4) [] h45 (vB (fun E h1 => Q (.inr E) h1) (fun x51 h51 =>
      vob h51 u2 11 (
      mv_rq l G mX9_add d 0 (mv_in [.ref u2, .ref x51] 2) [] h51 (vU (fun E h1 => Q (.inr E) h1) (fun h54 =>
      mv_rq l G mX5_readAny (d + 1) 20 [some (.ref u0), some (.int u1), some (.ref u2), some (.int (u3 + 1))] [] h54 Q))))))))))))))
theorem v_X5_readAny_20 {l : Launch} {G : mv_G} {d : Nat} {u0 : Nat} {u1 : Int32} {u2 : Nat} {u3 : Int32} {h : mv_H} {Q : mv_O → mv_H → Prop} (hG : mv_ok G) (hq : w_X5_readAny_20 l G d u0 u1 u2 u3 h Q) : mv_rq l G mX5_readAny (d + 1) 20 [some (.ref u0), some (.int u1), some (.ref u2), some (.int u3)] [] h Q := by
  unfold w_X5_readAny_20 at hq
  refine q_iload_n dX5_readAny_20 rfl ?_
  refine q_sipush (v := 160) dX5_readAny_21 (by decide) ?_
  refine q_icmp_ge (tgt := 63) dX5_readAny_24 (by decide) (fun c24 => ?_) (fun c24 => ?_)
  ·
    have hq := vif_t hq c24
    refine q_aload_n dX5_readAny_63 rfl ?_
    exact q_aret (rt := (.object "TreePaths$Test")) dX5_readAny_64 rfl (Or.inl ⟨_, rfl⟩) (Or.inr ⟨_, rfl⟩) hq
  ·
    have hq := vif_f hq c24
    refine q_aload_n dX5_readAny_27 rfl ?_
    obtain ⟨fs28, x28, f28, g28, hq⟩ := vgb_e hq
    refine q_getf (k := 0) (T := TX5) (C0 := RX5) (N := 2) (ci := 7) dX5_readAny_28 fl_RX5_12 rfl uin_RX5 (by decide) rfl f28 g28 ?_
    refine q_bipush (v := 124) dX5_readAny_31 (by decide) ?_
    obtain ⟨⟨fs33, f33⟩, hq⟩ := vob_e hq
    refine q_cV (Y := mX0_passes) (As := [.int 124]) (st := []) (b := x28) (ci := 2) vc_X0_passes dX5_readAny_33 ml_RX5_70 rfl f33 rfl (Nat.le_of_ble_eq_true rfl) rfl (Nat.le_of_ble_eq_true rfl) hq (fun v h1 hq1 => ?_) (fun E h1 hq1 => ?_)
    rotate_left
    ·
      rcases hq1 with hq1 | ⟨E1, e1, hq1⟩
      · obtain ⟨_, z, _⟩ := hq1; exact nomatch z
      · obtain rfl := Sum.inr.inj e1; exact q_xout (fun z hz => nomatch hz) hq1
    rcases hq1 with hq1 | ⟨E1, e1, hq1⟩
    rotate_left
    · exact nomatch e1
    obtain ⟨x33, hv, hq⟩ := hq1
    obtain rfl := Sum.inl.inj hv
    clear hv
    obtain ⟨h33, eh33⟩ : ∃ z, z = h1 := ⟨_, rfl⟩
    rw [← eh33] at hq ⊢
    clear eh33
    show mv_rq l G mX5_readAny (d + 1) 36 [some (.ref u0), some (.int u1), some (.ref u2), some (.int u3)] [.int x33] h33 _
    refine q_if_eq (tgt := 63) dX5_readAny_36 (by decide) (fun c36 => ?_) (fun c36 => ?_)
    ·
      have hq := vif_t hq c36
      refine q_aload_n dX5_readAny_63 rfl ?_
      exact q_aret (rt := (.object "TreePaths$Test")) dX5_readAny_64 rfl (Or.inl ⟨_, rfl⟩) (Or.inr ⟨_, rfl⟩) hq
    ·
      have hq := vif_f hq c36
      refine q_aload_n dX5_readAny_39 rfl ?_
      obtain ⟨fs40, x40, f40, g40, hq⟩ := vgb_e hq
      refine q_getf (k := 0) (T := TX5) (C0 := RX5) (N := 2) (ci := 7) dX5_readAny_40 fl_RX5_12 rfl uin_RX5 (by decide) rfl f40 g40 ?_
      refine q_bipush (v := 124) dX5_readAny_43 (by decide) ?_
      obtain ⟨⟨fs45, f45⟩, hq⟩ := vob_e hq
      refine q_cV (Y := mX0_expect) (As := [.int 124]) (st := []) (b := x40) (ci := 2) vc_X0_expect dX5_readAny_45 ml_RX5_100 rfl f45 rfl (Nat.le_of_ble_eq_true rfl) rfl (Nat.le_of_ble_eq_true rfl) hq (fun v h1 hq1 => ?_) (fun E h1 hq1 => ?_)
      rotate_left
      ·
        rcases hq1 with hq1 | ⟨E1, e1, hq1⟩
        · exact nomatch hq1.1
        · obtain rfl := Sum.inr.inj e1; exact q_xout (fun z hz => nomatch hz) hq1
      rcases hq1 with hq1 | ⟨E1, e1, hq1⟩
      rotate_left
      · exact nomatch e1
      obtain ⟨hv, hq⟩ := hq1
      obtain rfl := Sum.inl.inj hv
      clear hv
      obtain ⟨h45, eh45⟩ : ∃ z, z = h1 := ⟨_, rfl⟩
      rw [← eh45] at hq ⊢
      clear eh45
      show mv_rq l G mX5_readAny (d + 1) 48 [some (.ref u0), some (.int u1), some (.ref u2), some (.int u3)] [] h45 _
      refine q_aload_n dX5_readAny_48 rfl ?_
      refine q_aload_n dX5_readAny_49 rfl ?_
      refine q_iload_n dX5_readAny_50 rfl ?_
      obtain ⟨⟨fs51, f51⟩, hq⟩ := vob_e hq
      refine q_cV (Y := mX5_readAll) (As := [.int u1]) (st := [.ref u2]) (b := u0) (ci := 7) vc_X5_readAll dX5_readAny_51 ml_RX5_157 rfl f51 rfl (Nat.le_of_ble_eq_true rfl) rfl (Nat.le_of_ble_eq_true rfl) hq (fun v h1 hq1 => ?_) (fun E h1 hq1 => ?_)
      rotate_left
      ·
        rcases hq1 with hq1 | ⟨E1, e1, hq1⟩
        · obtain ⟨_, z, _⟩ := hq1; exact nomatch z
        · obtain rfl := Sum.inr.inj e1; exact q_xout (fun z hz => nomatch hz) hq1
      rcases hq1 with hq1 | ⟨E1, e1, hq1⟩
      rotate_left
      · exact nomatch e1
      obtain ⟨x51, hv, hq⟩ := hq1
      obtain rfl := Sum.inl.inj hv
      clear hv
      obtain ⟨h51, eh51⟩ : ∃ z, z = h1 := ⟨_, rfl⟩
      rw [← eh51] at hq ⊢
      clear eh51
      show mv_rq l G mX5_readAny (d + 1) 54 [some (.ref u0), some (.int u1), some (.ref u2), some (.int u3)] [.ref x51, .ref u2] h51 _
      obtain ⟨⟨fs54, f54⟩, hq⟩ := vob_e hq
      refine q_cV (Y := mX9_add) (As := [.ref x51]) (st := []) (b := u2) (ci := 11) vc_X9_add dX5_readAny_54 ml_RX5_160 rfl f54 rfl (Nat.le_of_ble_eq_true rfl) rfl (Nat.le_of_ble_eq_true rfl) hq (fun v h1 hq1 => ?_) (fun E h1 hq1 => ?_)
      rotate_left
      ·
        rcases hq1 with hq1 | ⟨E1, e1, hq1⟩
        · exact nomatch hq1.1
        · obtain rfl := Sum.inr.inj e1; exact q_xout (fun z hz => nomatch hz) hq1
      rcases hq1 with hq1 | ⟨E1, e1, hq1⟩
      rotate_left
      · exact nomatch e1
      obtain ⟨hv, hq⟩ := hq1
      obtain rfl := Sum.inl.inj hv
      clear hv
      obtain ⟨h54, eh54⟩ : ∃ z, z = h1 := ⟨_, rfl⟩
      rw [← eh54] at hq ⊢
      clear eh54
      show mv_rq l G mX5_readAny (d + 1) 57 [some (.ref u0), some (.int u1), some (.ref u2), some (.int u3)] [] h54 _
      refine q_iinc dX5_readAny_57 rfl rfl ?_
      show mv_rq l G mX5_readAny (d + 1) 60 [some (.ref u0), some (.int u1), some (.ref u2), some (.int (u3 + 1))] [] h54 _
      refine q_goto (tgt := 20) dX5_readAny_60 (by decide) ?_
      exact mv_weak (A := [some (.ref u0), some (.int u1), some (.ref u2), some (.int (u3 + 1))]) (by repeat' constructor) hq
def w_X5_readAll (l : Launch) (G : mv_G) (d : Nat) (u0 : Nat) (u1 : Int32) (h : mv_H) (Q : mv_O → mv_H → Prop) : Prop :=
  vnw h 8 (.inr (11, [.int 0, .null, .null, .null, .null, .null, .int 0, .null])) fun a0 h0 =>
  mv_rq l G mX9_init d 0 (mv_in [.ref a0, .int 1] 2) [] h0 (vU (fun E h1 => Q (.inr E) h1) (fun h5 =>
  vob h5 u0 7 (
  mv_rq l G mX5_readTest d 0 (mv_in [.ref u0, .int u1] 3) [] h5 (vB (fun E h1 => Q (.inr E) h1) (fun x12 h12 =>
  vob h12 a0 11 (
  mv_rq l G mX9_add d 0 (mv_in [.ref a0, .ref x12] 2) [] h12 (vU (fun E h1 => Q (.inr E) h1) (fun h15 =>
  mv_rq l G mX5_readAll (d + 1) 20 [some (.ref u0), some (.int u1), some (.ref a0), some (.int 0)] [] h15 Q))))))))
theorem v_X5_readAll {l : Launch} {G : mv_G} {d : Nat} {u0 : Nat} {u1 : Int32} {h : mv_H} {Q : mv_O → mv_H → Prop} (hG : mv_ok G) (hq : w_X5_readAll l G d u0 u1 h Q) : mv_rq l G mX5_readAll (d + 1) 0 (mv_in [.ref u0, .int u1] 4) [] h Q := by
  unfold w_X5_readAll at hq
  show mv_rq l G mX5_readAll (d + 1) 0 [some (.ref u0), some (.int u1), none, none] [] h _
  obtain ⟨a0, h0, ea0, eh0, hq⟩ := vnw_e hq
  refine q_new (fs := [.int 0, .null, .null, .null, .null, .null, .int 0, .null]) (ci := 11) (T := TX9) (N := 8) tyX9 tyX9_ok dX5_readAll_0 cl_RX5_154 inst_RX9 init_RX9 uin_RX9 rfl (by decide) ?_
  rw [← eh0, ← ea0]
  show mv_rq l G mX5_readAll (d + 1) 3 [some (.ref u0), some (.int u1), none, none] [.ref a0] h0 _
  refine q_dup dX5_readAll_3 rfl ?_
  refine q_iconst (v := 1) dX5_readAll_4 (by decide) ?_
  refine q_cI (Y := mX9_init) (As := [.int 1]) (st := [.ref a0]) (b := a0) ic_X9_init dX5_readAll_5 ml_RX5_156 rfl (Nat.le_of_ble_eq_true rfl) rfl (Nat.le_of_ble_eq_true rfl) hq (fun v h1 hq1 => ?_) (fun E h1 hq1 => ?_)
  rotate_left
  ·
    rcases hq1 with hq1 | ⟨E1, e1, hq1⟩
    · exact nomatch hq1.1
    · obtain rfl := Sum.inr.inj e1; exact q_xout (fun z hz => nomatch hz) hq1
  rcases hq1 with hq1 | ⟨E1, e1, hq1⟩
  rotate_left
  · exact nomatch e1
  obtain ⟨hv, hq⟩ := hq1
  obtain rfl := Sum.inl.inj hv
  clear hv
  obtain ⟨h5, eh5⟩ : ∃ z, z = h1 := ⟨_, rfl⟩
  rw [← eh5] at hq ⊢
  clear eh5
  show mv_rq l G mX5_readAll (d + 1) 8 [some (.ref u0), some (.int u1), none, none] [.ref a0] h5 _
  refine q_astore_n dX5_readAll_8 (Nat.le_of_ble_eq_true rfl) rfl ?_
  show mv_rq l G mX5_readAll (d + 1) 9 [some (.ref u0), some (.int u1), some (.ref a0), none] [] h5 _
  refine q_aload_n dX5_readAll_9 rfl ?_
  refine q_aload_n dX5_readAll_10 rfl ?_
  refine q_iload_n dX5_readAll_11 rfl ?_
  obtain ⟨⟨fs12, f12⟩, hq⟩ := vob_e hq
  refine q_cV (Y := mX5_readTest) (As := [.int u1]) (st := [.ref a0]) (b := u0) (ci := 7) vc_X5_readTest dX5_readAll_12 ml_RX5_163 rfl f12 rfl (Nat.le_of_ble_eq_true rfl) rfl (Nat.le_of_ble_eq_true rfl) hq (fun v h1 hq1 => ?_) (fun E h1 hq1 => ?_)
  rotate_left
  ·
    rcases hq1 with hq1 | ⟨E1, e1, hq1⟩
    · obtain ⟨_, z, _⟩ := hq1; exact nomatch z
    · obtain rfl := Sum.inr.inj e1; exact q_xout (fun z hz => nomatch hz) hq1
  rcases hq1 with hq1 | ⟨E1, e1, hq1⟩
  rotate_left
  · exact nomatch e1
  obtain ⟨x12, hv, hq⟩ := hq1
  obtain rfl := Sum.inl.inj hv
  clear hv
  obtain ⟨h12, eh12⟩ : ∃ z, z = h1 := ⟨_, rfl⟩
  rw [← eh12] at hq ⊢
  clear eh12
  show mv_rq l G mX5_readAll (d + 1) 15 [some (.ref u0), some (.int u1), some (.ref a0), none] [.ref x12, .ref a0] h12 _
  obtain ⟨⟨fs15, f15⟩, hq⟩ := vob_e hq
  refine q_cV (Y := mX9_add) (As := [.ref x12]) (st := []) (b := a0) (ci := 11) vc_X9_add dX5_readAll_15 ml_RX5_160 rfl f15 rfl (Nat.le_of_ble_eq_true rfl) rfl (Nat.le_of_ble_eq_true rfl) hq (fun v h1 hq1 => ?_) (fun E h1 hq1 => ?_)
  rotate_left
  ·
    rcases hq1 with hq1 | ⟨E1, e1, hq1⟩
    · exact nomatch hq1.1
    · obtain rfl := Sum.inr.inj e1; exact q_xout (fun z hz => nomatch hz) hq1
  rcases hq1 with hq1 | ⟨E1, e1, hq1⟩
  rotate_left
  · exact nomatch e1
  obtain ⟨hv, hq⟩ := hq1
  obtain rfl := Sum.inl.inj hv
  clear hv
  obtain ⟨h15, eh15⟩ : ∃ z, z = h1 := ⟨_, rfl⟩
  rw [← eh15] at hq ⊢
  clear eh15
  show mv_rq l G mX5_readAll (d + 1) 18 [some (.ref u0), some (.int u1), some (.ref a0), none] [] h15 _
  refine q_iconst (v := 0) dX5_readAll_18 (by decide) ?_
  refine q_istore_n dX5_readAll_19 (Nat.le_of_ble_eq_true rfl) rfl ?_
  show mv_rq l G mX5_readAll (d + 1) 20 [some (.ref u0), some (.int u1), some (.ref a0), some (.int 0)] [] h15 _
  exact mv_weak (A := [some (.ref u0), some (.int u1), some (.ref a0), some (.int 0)]) (by repeat' constructor) hq
def w_X5_readAll_20 (l : Launch) (G : mv_G) (d : Nat) (u0 : Nat) (u1 : Int32) (u2 : Nat) (u3 : Int32) (h : mv_H) (Q : mv_O → mv_H → Prop) : Prop :=
  vif (160 ≤ u3) (
    Q (.inl (some (.ref u2))) h) (
    vgb h u0 7 0 fun x28 =>
    vob h x28 2 (
    mv_rq l G mX0_passes d 0 (mv_in [.ref x28, .int 38] 2) [] h (vI (fun E h1 => Q (.inr E) h1) (fun x33 h33 =>
    vif (x33 = 0) (
      Q (.inl (some (.ref u2))) h33) (
      vgb h33 u0 7 0 fun x40 =>
      vob h33 x40 2 (
      mv_rq l G mX0_expect d 0 (mv_in [.ref x40, .int 38] 2) [] h33 (vU (fun E h1 => Q (.inr E) h1) (fun h45 =>
      vob h45 u0 7 (
      mv_rq l G mX5_readTest d 0 (mv_in [.ref u0, .int u1] 3) [] h45 (vB (fun E h1 => Q (.inr E) h1) (fun x51 h51 =>
      vob h51 u2 11 (
      mv_rq l G mX9_add d 0 (mv_in [.ref u2, .ref x51] 2) [] h51 (vU (fun E h1 => Q (.inr E) h1) (fun h54 =>
      mv_rq l G mX5_readAll (d + 1) 20 [some (.ref u0), some (.int u1), some (.ref u2), some (.int (u3 + 1))] [] h54 Q))))))))))))))
theorem v_X5_readAll_20 {l : Launch} {G : mv_G} {d : Nat} {u0 : Nat} {u1 : Int32} {u2 : Nat} {u3 : Int32} {h : mv_H} {Q : mv_O → mv_H → Prop} (hG : mv_ok G) (hq : w_X5_readAll_20 l G d u0 u1 u2 u3 h Q) : mv_rq l G mX5_readAll (d + 1) 20 [some (.ref u0), some (.int u1), some (.ref u2), some (.int u3)] [] h Q := by
  unfold w_X5_readAll_20 at hq
  refine q_iload_n dX5_readAll_20 rfl ?_
  refine q_sipush (v := 160) dX5_readAll_21 (by decide) ?_
  refine q_icmp_ge (tgt := 63) dX5_readAll_24 (by decide) (fun c24 => ?_) (fun c24 => ?_)
  ·
    have hq := vif_t hq c24
    refine q_aload_n dX5_readAll_63 rfl ?_
    exact q_aret (rt := (.object "TreePaths$Test")) dX5_readAll_64 rfl (Or.inl ⟨_, rfl⟩) (Or.inr ⟨_, rfl⟩) hq
  ·
    have hq := vif_f hq c24
    refine q_aload_n dX5_readAll_27 rfl ?_
    obtain ⟨fs28, x28, f28, g28, hq⟩ := vgb_e hq
    refine q_getf (k := 0) (T := TX5) (C0 := RX5) (N := 2) (ci := 7) dX5_readAll_28 fl_RX5_12 rfl uin_RX5 (by decide) rfl f28 g28 ?_
    refine q_bipush (v := 38) dX5_readAll_31 (by decide) ?_
    obtain ⟨⟨fs33, f33⟩, hq⟩ := vob_e hq
    refine q_cV (Y := mX0_passes) (As := [.int 38]) (st := []) (b := x28) (ci := 2) vc_X0_passes dX5_readAll_33 ml_RX5_70 rfl f33 rfl (Nat.le_of_ble_eq_true rfl) rfl (Nat.le_of_ble_eq_true rfl) hq (fun v h1 hq1 => ?_) (fun E h1 hq1 => ?_)
    rotate_left
    ·
      rcases hq1 with hq1 | ⟨E1, e1, hq1⟩
      · obtain ⟨_, z, _⟩ := hq1; exact nomatch z
      · obtain rfl := Sum.inr.inj e1; exact q_xout (fun z hz => nomatch hz) hq1
    rcases hq1 with hq1 | ⟨E1, e1, hq1⟩
    rotate_left
    · exact nomatch e1
    obtain ⟨x33, hv, hq⟩ := hq1
    obtain rfl := Sum.inl.inj hv
    clear hv
    obtain ⟨h33, eh33⟩ : ∃ z, z = h1 := ⟨_, rfl⟩
    rw [← eh33] at hq ⊢
    clear eh33
    show mv_rq l G mX5_readAll (d + 1) 36 [some (.ref u0), some (.int u1), some (.ref u2), some (.int u3)] [.int x33] h33 _
    refine q_if_eq (tgt := 63) dX5_readAll_36 (by decide) (fun c36 => ?_) (fun c36 => ?_)
    ·
      have hq := vif_t hq c36
      refine q_aload_n dX5_readAll_63 rfl ?_
      exact q_aret (rt := (.object "TreePaths$Test")) dX5_readAll_64 rfl (Or.inl ⟨_, rfl⟩) (Or.inr ⟨_, rfl⟩) hq
    ·
      have hq := vif_f hq c36
      refine q_aload_n dX5_readAll_39 rfl ?_
      obtain ⟨fs40, x40, f40, g40, hq⟩ := vgb_e hq
      refine q_getf (k := 0) (T := TX5) (C0 := RX5) (N := 2) (ci := 7) dX5_readAll_40 fl_RX5_12 rfl uin_RX5 (by decide) rfl f40 g40 ?_
      refine q_bipush (v := 38) dX5_readAll_43 (by decide) ?_
      obtain ⟨⟨fs45, f45⟩, hq⟩ := vob_e hq
      refine q_cV (Y := mX0_expect) (As := [.int 38]) (st := []) (b := x40) (ci := 2) vc_X0_expect dX5_readAll_45 ml_RX5_100 rfl f45 rfl (Nat.le_of_ble_eq_true rfl) rfl (Nat.le_of_ble_eq_true rfl) hq (fun v h1 hq1 => ?_) (fun E h1 hq1 => ?_)
      rotate_left
      ·
        rcases hq1 with hq1 | ⟨E1, e1, hq1⟩
        · exact nomatch hq1.1
        · obtain rfl := Sum.inr.inj e1; exact q_xout (fun z hz => nomatch hz) hq1
      rcases hq1 with hq1 | ⟨E1, e1, hq1⟩
      rotate_left
      · exact nomatch e1
      obtain ⟨hv, hq⟩ := hq1
      obtain rfl := Sum.inl.inj hv
      clear hv
      obtain ⟨h45, eh45⟩ : ∃ z, z = h1 := ⟨_, rfl⟩
      rw [← eh45] at hq ⊢
      clear eh45
      show mv_rq l G mX5_readAll (d + 1) 48 [some (.ref u0), some (.int u1), some (.ref u2), some (.int u3)] [] h45 _
      refine q_aload_n dX5_readAll_48 rfl ?_
      refine q_aload_n dX5_readAll_49 rfl ?_
      refine q_iload_n dX5_readAll_50 rfl ?_
      obtain ⟨⟨fs51, f51⟩, hq⟩ := vob_e hq
      refine q_cV (Y := mX5_readTest) (As := [.int u1]) (st := [.ref u2]) (b := u0) (ci := 7) vc_X5_readTest dX5_readAll_51 ml_RX5_163 rfl f51 rfl (Nat.le_of_ble_eq_true rfl) rfl (Nat.le_of_ble_eq_true rfl) hq (fun v h1 hq1 => ?_) (fun E h1 hq1 => ?_)
      rotate_left
      ·
        rcases hq1 with hq1 | ⟨E1, e1, hq1⟩
        · obtain ⟨_, z, _⟩ := hq1; exact nomatch z
        · obtain rfl := Sum.inr.inj e1; exact q_xout (fun z hz => nomatch hz) hq1
      rcases hq1 with hq1 | ⟨E1, e1, hq1⟩
      rotate_left
      · exact nomatch e1
      obtain ⟨x51, hv, hq⟩ := hq1
      obtain rfl := Sum.inl.inj hv
      clear hv
      obtain ⟨h51, eh51⟩ : ∃ z, z = h1 := ⟨_, rfl⟩
      rw [← eh51] at hq ⊢
      clear eh51
      show mv_rq l G mX5_readAll (d + 1) 54 [some (.ref u0), some (.int u1), some (.ref u2), some (.int u3)] [.ref x51, .ref u2] h51 _
      obtain ⟨⟨fs54, f54⟩, hq⟩ := vob_e hq
      refine q_cV (Y := mX9_add) (As := [.ref x51]) (st := []) (b := u2) (ci := 11) vc_X9_add dX5_readAll_54 ml_RX5_160 rfl f54 rfl (Nat.le_of_ble_eq_true rfl) rfl (Nat.le_of_ble_eq_true rfl) hq (fun v h1 hq1 => ?_) (fun E h1 hq1 => ?_)
      rotate_left
      ·
        rcases hq1 with hq1 | ⟨E1, e1, hq1⟩
        · exact nomatch hq1.1
        · obtain rfl := Sum.inr.inj e1; exact q_xout (fun z hz => nomatch hz) hq1
      rcases hq1 with hq1 | ⟨E1, e1, hq1⟩
      rotate_left
      · exact nomatch e1
      obtain ⟨hv, hq⟩ := hq1
      obtain rfl := Sum.inl.inj hv
      clear hv
      obtain ⟨h54, eh54⟩ : ∃ z, z = h1 := ⟨_, rfl⟩
      rw [← eh54] at hq ⊢
      clear eh54
      show mv_rq l G mX5_readAll (d + 1) 57 [some (.ref u0), some (.int u1), some (.ref u2), some (.int u3)] [] h54 _
      refine q_iinc dX5_readAll_57 rfl rfl ?_
      show mv_rq l G mX5_readAll (d + 1) 60 [some (.ref u0), some (.int u1), some (.ref u2), some (.int (u3 + 1))] [] h54 _
      refine q_goto (tgt := 20) dX5_readAll_60 (by decide) ?_
      exact mv_weak (A := [some (.ref u0), some (.int u1), some (.ref u2), some (.int (u3 + 1))]) (by repeat' constructor) hq
def w_X5_readTest (l : Launch) (G : mv_G) (d : Nat) (u0 : Nat) (u1 : Int32) (h : mv_H) (Q : mv_O → mv_H → Prop) : Prop :=
  vgb h u0 7 0 fun x1 =>
  vob h x1 2 (
  mv_rq l G mX0_look d 0 (mv_in [.ref x1] 1) [] h (vI (fun E h1 => Q (.inr E) h1) (fun x4 h4 =>
  vif (x4 = 33) (
    vob h4 u0 7 (
    mv_rq l G mX5_open d 0 (mv_in [.ref u0, .int 33, .int u1] 3) [] h4 (vU (fun E h1 => Q (.inr E) h1) (fun h16 =>
    vnw h16 8 (.inr (11, [.int 0, .null, .null, .null, .null, .null, .int 0, .null])) fun a19 h19 =>
    mv_rq l G mX9_init d 0 (mv_in [.ref a19, .int 2] 2) [] h19 (vU (fun E h1 => Q (.inr E) h1) (fun h24 =>
    vob h24 u0 7 (
    mv_rq l G mX5_readTest d 0 (mv_in [.ref u0, .int (u1 + 1)] 3) [] h24 (vB (fun E h1 => Q (.inr E) h1) (fun x33 h33 =>
    vob h33 a19 11 (
    mv_rq l G mX9_add d 0 (mv_in [.ref a19, .ref x33] 2) [] h33 (vU (fun E h1 => Q (.inr E) h1) (fun h36 =>
    Q (.inl (some (.ref a19))) h36)))))))))))) (
    vgb h4 u0 7 0 fun x42 =>
    vob h4 x42 2 (
    mv_rq l G mX0_look d 0 (mv_in [.ref x42] 1) [] h4 (vI (fun E h1 => Q (.inr E) h1) (fun x45 h45 =>
    vif (x45 = 40) (
      vob h45 u0 7 (
      mv_rq l G mX5_open d 0 (mv_in [.ref u0, .int 40, .int u1] 3) [] h45 (vU (fun E h1 => Q (.inr E) h1) (fun h57 =>
      vob h57 u0 7 (
      mv_rq l G mX5_readAny d 0 (mv_in [.ref u0, .int (u1 + 1)] 4) [] h57 (vB (fun E h1 => Q (.inr E) h1) (fun x64 h64 =>
      vgb h64 u0 7 0 fun x69 =>
      vob h64 x69 2 (
      mv_rq l G mX0_expect d 0 (mv_in [.ref x69, .int 41] 2) [] h64 (vU (fun E h1 => Q (.inr E) h1) (fun h74 =>
      Q (.inl (some (.ref x64))) h74)))))))))) (
      vob h45 u0 7 (
      mv_rq l G mX5_seesPath d 0 (mv_in [.ref u0] 1) [] h45 (vI (fun E h1 => Q (.inr E) h1) (fun x80 h80 =>
      vif (x80 = 0) (
        vob h80 u0 7 (
        mv_rq l G mX5_readThing d 0 (mv_in [.ref u0, .int u1] 4) [] h80 (vB (fun E h1 => Q (.inr E) h1) (fun x97 h97 =>
        vob h97 u0 7 (
        mv_rq l G mX5_readComparison d 0 (mv_in [.ref u0, .ref x97, .int u1] 4) [] h97 (vB (fun E h1 => Q (.inr E) h1) (fun x101 h101 =>
        Q (.inl (some (.ref x101))) h101))))))) (
        vob h80 u0 7 (
        mv_rq l G mX5_readPathTest d 0 (mv_in [.ref u0, .int u1] 5) [] h80 (vB (fun E h1 => Q (.inr E) h1) (fun x88 h88 =>
        Q (.inl (some (.ref x88))) h88)))))))))))))))
theorem v_X5_readTest {l : Launch} {G : mv_G} {d : Nat} {u0 : Nat} {u1 : Int32} {h : mv_H} {Q : mv_O → mv_H → Prop} (hG : mv_ok G) (hq : w_X5_readTest l G d u0 u1 h Q) : mv_rq l G mX5_readTest (d + 1) 0 (mv_in [.ref u0, .int u1] 3) [] h Q := by
  unfold w_X5_readTest at hq
  show mv_rq l G mX5_readTest (d + 1) 0 [some (.ref u0), some (.int u1), none] [] h _
  refine q_aload_n dX5_readTest_0 rfl ?_
  obtain ⟨fs1, x1, f1, g1, hq⟩ := vgb_e hq
  refine q_getf (k := 0) (T := TX5) (C0 := RX5) (N := 2) (ci := 7) dX5_readTest_1 fl_RX5_12 rfl uin_RX5 (by decide) rfl f1 g1 ?_
  obtain ⟨⟨fs4, f4⟩, hq⟩ := vob_e hq
  refine q_cV (Y := mX0_look) (As := []) (st := []) (b := x1) (ci := 2) vc_X0_look dX5_readTest_4 ml_RX5_26 rfl f4 rfl (Nat.le_of_ble_eq_true rfl) rfl (Nat.le_of_ble_eq_true rfl) hq (fun v h1 hq1 => ?_) (fun E h1 hq1 => ?_)
  rotate_left
  ·
    rcases hq1 with hq1 | ⟨E1, e1, hq1⟩
    · obtain ⟨_, z, _⟩ := hq1; exact nomatch z
    · obtain rfl := Sum.inr.inj e1; exact q_xout (fun z hz => nomatch hz) hq1
  rcases hq1 with hq1 | ⟨E1, e1, hq1⟩
  rotate_left
  · exact nomatch e1
  obtain ⟨x4, hv, hq⟩ := hq1
  obtain rfl := Sum.inl.inj hv
  clear hv
  obtain ⟨h4, eh4⟩ : ∃ z, z = h1 := ⟨_, rfl⟩
  rw [← eh4] at hq ⊢
  clear eh4
  show mv_rq l G mX5_readTest (d + 1) 7 [some (.ref u0), some (.int u1), none] [.int x4] h4 _
  refine q_bipush (v := 33) dX5_readTest_7 (by decide) ?_
  refine q_icmp_ne (tgt := 41) dX5_readTest_9 (by decide) (fun c9 => ?_) (fun c9 => ?_)
  ·
    have hq := vif_f hq c9
    refine q_aload_n dX5_readTest_41 rfl ?_
    obtain ⟨fs42, x42, f42, g42, hq⟩ := vgb_e hq
    refine q_getf (k := 0) (T := TX5) (C0 := RX5) (N := 2) (ci := 7) dX5_readTest_42 fl_RX5_12 rfl uin_RX5 (by decide) rfl f42 g42 ?_
    obtain ⟨⟨fs45, f45⟩, hq⟩ := vob_e hq
    refine q_cV (Y := mX0_look) (As := []) (st := []) (b := x42) (ci := 2) vc_X0_look dX5_readTest_45 ml_RX5_26 rfl f45 rfl (Nat.le_of_ble_eq_true rfl) rfl (Nat.le_of_ble_eq_true rfl) hq (fun v h1 hq1 => ?_) (fun E h1 hq1 => ?_)
    rotate_left
    ·
      rcases hq1 with hq1 | ⟨E1, e1, hq1⟩
      · obtain ⟨_, z, _⟩ := hq1; exact nomatch z
      · obtain rfl := Sum.inr.inj e1; exact q_xout (fun z hz => nomatch hz) hq1
    rcases hq1 with hq1 | ⟨E1, e1, hq1⟩
    rotate_left
    · exact nomatch e1
    obtain ⟨x45, hv, hq⟩ := hq1
    obtain rfl := Sum.inl.inj hv
    clear hv
    obtain ⟨h45, eh45⟩ : ∃ z, z = h1 := ⟨_, rfl⟩
    rw [← eh45] at hq ⊢
    clear eh45
    show mv_rq l G mX5_readTest (d + 1) 48 [some (.ref u0), some (.int u1), none] [.int x45] h45 _
    refine q_bipush (v := 40) dX5_readTest_48 (by decide) ?_
    refine q_icmp_ne (tgt := 79) dX5_readTest_50 (by decide) (fun c50 => ?_) (fun c50 => ?_)
    ·
      have hq := vif_f hq c50
      refine q_aload_n dX5_readTest_79 rfl ?_
      obtain ⟨⟨fs80, f80⟩, hq⟩ := vob_e hq
      refine q_cV (Y := mX5_seesPath) (As := []) (st := []) (b := u0) (ci := 7) vc_X5_seesPath dX5_readTest_80 ml_RX5_166 rfl f80 rfl (Nat.le_of_ble_eq_true rfl) rfl (Nat.le_of_ble_eq_true rfl) hq (fun v h1 hq1 => ?_) (fun E h1 hq1 => ?_)
      rotate_left
      ·
        rcases hq1 with hq1 | ⟨E1, e1, hq1⟩
        · obtain ⟨_, z, _⟩ := hq1; exact nomatch z
        · obtain rfl := Sum.inr.inj e1; exact q_xout (fun z hz => nomatch hz) hq1
      rcases hq1 with hq1 | ⟨E1, e1, hq1⟩
      rotate_left
      · exact nomatch e1
      obtain ⟨x80, hv, hq⟩ := hq1
      obtain rfl := Sum.inl.inj hv
      clear hv
      obtain ⟨h80, eh80⟩ : ∃ z, z = h1 := ⟨_, rfl⟩
      rw [← eh80] at hq ⊢
      clear eh80
      show mv_rq l G mX5_readTest (d + 1) 83 [some (.ref u0), some (.int u1), none] [.int x80] h80 _
      refine q_if_eq (tgt := 94) dX5_readTest_83 (by decide) (fun c83 => ?_) (fun c83 => ?_)
      ·
        have hq := vif_t hq c83
        refine q_aload_n dX5_readTest_94 rfl ?_
        refine q_aload_n dX5_readTest_95 rfl ?_
        refine q_iload_n dX5_readTest_96 rfl ?_
        obtain ⟨⟨fs97, f97⟩, hq⟩ := vob_e hq
        refine q_cV (Y := mX5_readThing) (As := [.int u1]) (st := [.ref u0]) (b := u0) (ci := 7) vc_X5_readThing dX5_readTest_97 ml_RX5_172 rfl f97 rfl (Nat.le_of_ble_eq_true rfl) rfl (Nat.le_of_ble_eq_true rfl) hq (fun v h1 hq1 => ?_) (fun E h1 hq1 => ?_)
        rotate_left
        ·
          rcases hq1 with hq1 | ⟨E1, e1, hq1⟩
          · obtain ⟨_, z, _⟩ := hq1; exact nomatch z
          · obtain rfl := Sum.inr.inj e1; exact q_xout (fun z hz => nomatch hz) hq1
        rcases hq1 with hq1 | ⟨E1, e1, hq1⟩
        rotate_left
        · exact nomatch e1
        obtain ⟨x97, hv, hq⟩ := hq1
        obtain rfl := Sum.inl.inj hv
        clear hv
        obtain ⟨h97, eh97⟩ : ∃ z, z = h1 := ⟨_, rfl⟩
        rw [← eh97] at hq ⊢
        clear eh97
        show mv_rq l G mX5_readTest (d + 1) 100 [some (.ref u0), some (.int u1), none] [.ref x97, .ref u0] h97 _
        refine q_iload_n dX5_readTest_100 rfl ?_
        obtain ⟨⟨fs101, f101⟩, hq⟩ := vob_e hq
        refine q_cV (Y := mX5_readComparison) (As := [.ref x97, .int u1]) (st := []) (b := u0) (ci := 7) vc_X5_readComparison dX5_readTest_101 ml_RX5_176 rfl f101 rfl (Nat.le_of_ble_eq_true rfl) rfl (Nat.le_of_ble_eq_true rfl) hq (fun v h1 hq1 => ?_) (fun E h1 hq1 => ?_)
        rotate_left
        ·
          rcases hq1 with hq1 | ⟨E1, e1, hq1⟩
          · obtain ⟨_, z, _⟩ := hq1; exact nomatch z
          · obtain rfl := Sum.inr.inj e1; exact q_xout (fun z hz => nomatch hz) hq1
        rcases hq1 with hq1 | ⟨E1, e1, hq1⟩
        rotate_left
        · exact nomatch e1
        obtain ⟨x101, hv, hq⟩ := hq1
        obtain rfl := Sum.inl.inj hv
        clear hv
        obtain ⟨h101, eh101⟩ : ∃ z, z = h1 := ⟨_, rfl⟩
        rw [← eh101] at hq ⊢
        clear eh101
        show mv_rq l G mX5_readTest (d + 1) 104 [some (.ref u0), some (.int u1), none] [.ref x101] h101 _
        exact q_aret (rt := (.object "TreePaths$Test")) dX5_readTest_104 rfl (Or.inl ⟨_, rfl⟩) (Or.inr ⟨_, rfl⟩) hq
      ·
        have hq := vif_f hq c83
        refine q_aload_n dX5_readTest_86 rfl ?_
        refine q_iload_n dX5_readTest_87 rfl ?_
        obtain ⟨⟨fs88, f88⟩, hq⟩ := vob_e hq
        refine q_cV (Y := mX5_readPathTest) (As := [.int u1]) (st := []) (b := u0) (ci := 7) vc_X5_readPathTest dX5_readTest_88 ml_RX5_169 rfl f88 rfl (Nat.le_of_ble_eq_true rfl) rfl (Nat.le_of_ble_eq_true rfl) hq (fun v h1 hq1 => ?_) (fun E h1 hq1 => ?_)
        rotate_left
        ·
          rcases hq1 with hq1 | ⟨E1, e1, hq1⟩
          · obtain ⟨_, z, _⟩ := hq1; exact nomatch z
          · obtain rfl := Sum.inr.inj e1; exact q_xout (fun z hz => nomatch hz) hq1
        rcases hq1 with hq1 | ⟨E1, e1, hq1⟩
        rotate_left
        · exact nomatch e1
        obtain ⟨x88, hv, hq⟩ := hq1
        obtain rfl := Sum.inl.inj hv
        clear hv
        obtain ⟨h88, eh88⟩ : ∃ z, z = h1 := ⟨_, rfl⟩
        rw [← eh88] at hq ⊢
        clear eh88
        show mv_rq l G mX5_readTest (d + 1) 91 [some (.ref u0), some (.int u1), none] [.ref x88] h88 _
        refine q_goto (tgt := 104) dX5_readTest_91 (by decide) ?_
        exact q_aret (rt := (.object "TreePaths$Test")) dX5_readTest_104 rfl (Or.inl ⟨_, rfl⟩) (Or.inr ⟨_, rfl⟩) hq
    ·
      have hq := vif_t hq c50
      refine q_aload_n dX5_readTest_53 rfl ?_
      refine q_bipush (v := 40) dX5_readTest_54 (by decide) ?_
      refine q_iload_n dX5_readTest_56 rfl ?_
      obtain ⟨⟨fs57, f57⟩, hq⟩ := vob_e hq
      refine q_cV (Y := mX5_open) (As := [.int 40, .int u1]) (st := []) (b := u0) (ci := 7) vc_X5_open dX5_readTest_57 ml_RX5_112 rfl f57 rfl (Nat.le_of_ble_eq_true rfl) rfl (Nat.le_of_ble_eq_true rfl) hq (fun v h1 hq1 => ?_) (fun E h1 hq1 => ?_)
      rotate_left
      ·
        rcases hq1 with hq1 | ⟨E1, e1, hq1⟩
        · exact nomatch hq1.1
        · obtain rfl := Sum.inr.inj e1; exact q_xout (fun z hz => nomatch hz) hq1
      rcases hq1 with hq1 | ⟨E1, e1, hq1⟩
      rotate_left
      · exact nomatch e1
      obtain ⟨hv, hq⟩ := hq1
      obtain rfl := Sum.inl.inj hv
      clear hv
      obtain ⟨h57, eh57⟩ : ∃ z, z = h1 := ⟨_, rfl⟩
      rw [← eh57] at hq ⊢
      clear eh57
      show mv_rq l G mX5_readTest (d + 1) 60 [some (.ref u0), some (.int u1), none] [] h57 _
      refine q_aload_n dX5_readTest_60 rfl ?_
      refine q_iload_n dX5_readTest_61 rfl ?_
      refine q_iconst (v := 1) dX5_readTest_62 (by decide) ?_
      refine q_iadd dX5_readTest_63 ?_
      obtain ⟨⟨fs64, f64⟩, hq⟩ := vob_e hq
      refine q_cV (Y := mX5_readAny) (As := [.int (u1 + 1)]) (st := []) (b := u0) (ci := 7) vc_X5_readAny dX5_readTest_64 ml_RX5_116 rfl f64 rfl (Nat.le_of_ble_eq_true rfl) rfl (Nat.le_of_ble_eq_true rfl) hq (fun v h1 hq1 => ?_) (fun E h1 hq1 => ?_)
      rotate_left
      ·
        rcases hq1 with hq1 | ⟨E1, e1, hq1⟩
        · obtain ⟨_, z, _⟩ := hq1; exact nomatch z
        · obtain rfl := Sum.inr.inj e1; exact q_xout (fun z hz => nomatch hz) hq1
      rcases hq1 with hq1 | ⟨E1, e1, hq1⟩
      rotate_left
      · exact nomatch e1
      obtain ⟨x64, hv, hq⟩ := hq1
      obtain rfl := Sum.inl.inj hv
      clear hv
      obtain ⟨h64, eh64⟩ : ∃ z, z = h1 := ⟨_, rfl⟩
      rw [← eh64] at hq ⊢
      clear eh64
      show mv_rq l G mX5_readTest (d + 1) 67 [some (.ref u0), some (.int u1), none] [.ref x64] h64 _
      refine q_astore_n dX5_readTest_67 (Nat.le_of_ble_eq_true rfl) rfl ?_
      show mv_rq l G mX5_readTest (d + 1) 68 [some (.ref u0), some (.int u1), some (.ref x64)] [] h64 _
      refine q_aload_n dX5_readTest_68 rfl ?_
      obtain ⟨fs69, x69, f69, g69, hq⟩ := vgb_e hq
      refine q_getf (k := 0) (T := TX5) (C0 := RX5) (N := 2) (ci := 7) dX5_readTest_69 fl_RX5_12 rfl uin_RX5 (by decide) rfl f69 g69 ?_
      refine q_bipush (v := 41) dX5_readTest_72 (by decide) ?_
      obtain ⟨⟨fs74, f74⟩, hq⟩ := vob_e hq
      refine q_cV (Y := mX0_expect) (As := [.int 41]) (st := []) (b := x69) (ci := 2) vc_X0_expect dX5_readTest_74 ml_RX5_100 rfl f74 rfl (Nat.le_of_ble_eq_true rfl) rfl (Nat.le_of_ble_eq_true rfl) hq (fun v h1 hq1 => ?_) (fun E h1 hq1 => ?_)
      rotate_left
      ·
        rcases hq1 with hq1 | ⟨E1, e1, hq1⟩
        · exact nomatch hq1.1
        · obtain rfl := Sum.inr.inj e1; exact q_xout (fun z hz => nomatch hz) hq1
      rcases hq1 with hq1 | ⟨E1, e1, hq1⟩
      rotate_left
      · exact nomatch e1
      obtain ⟨hv, hq⟩ := hq1
      obtain rfl := Sum.inl.inj hv
      clear hv
      obtain ⟨h74, eh74⟩ : ∃ z, z = h1 := ⟨_, rfl⟩
      rw [← eh74] at hq ⊢
      clear eh74
      show mv_rq l G mX5_readTest (d + 1) 77 [some (.ref u0), some (.int u1), some (.ref x64)] [] h74 _
      refine q_aload_n dX5_readTest_77 rfl ?_
      exact q_aret (rt := (.object "TreePaths$Test")) dX5_readTest_78 rfl (Or.inl ⟨_, rfl⟩) (Or.inr ⟨_, rfl⟩) hq
  ·
    have hq := vif_t hq c9
    refine q_aload_n dX5_readTest_12 rfl ?_
    refine q_bipush (v := 33) dX5_readTest_13 (by decide) ?_
    refine q_iload_n dX5_readTest_15 rfl ?_
    obtain ⟨⟨fs16, f16⟩, hq⟩ := vob_e hq
    refine q_cV (Y := mX5_open) (As := [.int 33, .int u1]) (st := []) (b := u0) (ci := 7) vc_X5_open dX5_readTest_16 ml_RX5_112 rfl f16 rfl (Nat.le_of_ble_eq_true rfl) rfl (Nat.le_of_ble_eq_true rfl) hq (fun v h1 hq1 => ?_) (fun E h1 hq1 => ?_)
    rotate_left
    ·
      rcases hq1 with hq1 | ⟨E1, e1, hq1⟩
      · exact nomatch hq1.1
      · obtain rfl := Sum.inr.inj e1; exact q_xout (fun z hz => nomatch hz) hq1
    rcases hq1 with hq1 | ⟨E1, e1, hq1⟩
    rotate_left
    · exact nomatch e1
    obtain ⟨hv, hq⟩ := hq1
    obtain rfl := Sum.inl.inj hv
    clear hv
    obtain ⟨h16, eh16⟩ : ∃ z, z = h1 := ⟨_, rfl⟩
    rw [← eh16] at hq ⊢
    clear eh16
    show mv_rq l G mX5_readTest (d + 1) 19 [some (.ref u0), some (.int u1), none] [] h16 _
    obtain ⟨a19, h19, ea19, eh19, hq⟩ := vnw_e hq
    refine q_new (fs := [.int 0, .null, .null, .null, .null, .null, .int 0, .null]) (ci := 11) (T := TX9) (N := 8) tyX9 tyX9_ok dX5_readTest_19 cl_RX5_154 inst_RX9 init_RX9 uin_RX9 rfl (by decide) ?_
    rw [← eh19, ← ea19]
    show mv_rq l G mX5_readTest (d + 1) 22 [some (.ref u0), some (.int u1), none] [.ref a19] h19 _
    refine q_dup dX5_readTest_22 rfl ?_
    refine q_iconst (v := 2) dX5_readTest_23 (by decide) ?_
    refine q_cI (Y := mX9_init) (As := [.int 2]) (st := [.ref a19]) (b := a19) ic_X9_init dX5_readTest_24 ml_RX5_156 rfl (Nat.le_of_ble_eq_true rfl) rfl (Nat.le_of_ble_eq_true rfl) hq (fun v h1 hq1 => ?_) (fun E h1 hq1 => ?_)
    rotate_left
    ·
      rcases hq1 with hq1 | ⟨E1, e1, hq1⟩
      · exact nomatch hq1.1
      · obtain rfl := Sum.inr.inj e1; exact q_xout (fun z hz => nomatch hz) hq1
    rcases hq1 with hq1 | ⟨E1, e1, hq1⟩
    rotate_left
    · exact nomatch e1
    obtain ⟨hv, hq⟩ := hq1
    obtain rfl := Sum.inl.inj hv
    clear hv
    obtain ⟨h24, eh24⟩ : ∃ z, z = h1 := ⟨_, rfl⟩
    rw [← eh24] at hq ⊢
    clear eh24
    show mv_rq l G mX5_readTest (d + 1) 27 [some (.ref u0), some (.int u1), none] [.ref a19] h24 _
    refine q_astore_n dX5_readTest_27 (Nat.le_of_ble_eq_true rfl) rfl ?_
    show mv_rq l G mX5_readTest (d + 1) 28 [some (.ref u0), some (.int u1), some (.ref a19)] [] h24 _
    refine q_aload_n dX5_readTest_28 rfl ?_
    refine q_aload_n dX5_readTest_29 rfl ?_
    refine q_iload_n dX5_readTest_30 rfl ?_
    refine q_iconst (v := 1) dX5_readTest_31 (by decide) ?_
    refine q_iadd dX5_readTest_32 ?_
    obtain ⟨⟨fs33, f33⟩, hq⟩ := vob_e hq
    refine q_cV (Y := mX5_readTest) (As := [.int (u1 + 1)]) (st := [.ref a19]) (b := u0) (ci := 7) vc_X5_readTest dX5_readTest_33 ml_RX5_163 rfl f33 rfl (Nat.le_of_ble_eq_true rfl) rfl (Nat.le_of_ble_eq_true rfl) hq (fun v h1 hq1 => ?_) (fun E h1 hq1 => ?_)
    rotate_left
    ·
      rcases hq1 with hq1 | ⟨E1, e1, hq1⟩
      · obtain ⟨_, z, _⟩ := hq1; exact nomatch z
      · obtain rfl := Sum.inr.inj e1; exact q_xout (fun z hz => nomatch hz) hq1
    rcases hq1 with hq1 | ⟨E1, e1, hq1⟩
    rotate_left
    · exact nomatch e1
    obtain ⟨x33, hv, hq⟩ := hq1
    obtain rfl := Sum.inl.inj hv
    clear hv
    obtain ⟨h33, eh33⟩ : ∃ z, z = h1 := ⟨_, rfl⟩
    rw [← eh33] at hq ⊢
    clear eh33
    show mv_rq l G mX5_readTest (d + 1) 36 [some (.ref u0), some (.int u1), some (.ref a19)] [.ref x33, .ref a19] h33 _
    obtain ⟨⟨fs36, f36⟩, hq⟩ := vob_e hq
    refine q_cV (Y := mX9_add) (As := [.ref x33]) (st := []) (b := a19) (ci := 11) vc_X9_add dX5_readTest_36 ml_RX5_160 rfl f36 rfl (Nat.le_of_ble_eq_true rfl) rfl (Nat.le_of_ble_eq_true rfl) hq (fun v h1 hq1 => ?_) (fun E h1 hq1 => ?_)
    rotate_left
    ·
      rcases hq1 with hq1 | ⟨E1, e1, hq1⟩
      · exact nomatch hq1.1
      · obtain rfl := Sum.inr.inj e1; exact q_xout (fun z hz => nomatch hz) hq1
    rcases hq1 with hq1 | ⟨E1, e1, hq1⟩
    rotate_left
    · exact nomatch e1
    obtain ⟨hv, hq⟩ := hq1
    obtain rfl := Sum.inl.inj hv
    clear hv
    obtain ⟨h36, eh36⟩ : ∃ z, z = h1 := ⟨_, rfl⟩
    rw [← eh36] at hq ⊢
    clear eh36
    show mv_rq l G mX5_readTest (d + 1) 39 [some (.ref u0), some (.int u1), some (.ref a19)] [] h36 _
    refine q_aload_n dX5_readTest_39 rfl ?_
    exact q_aret (rt := (.object "TreePaths$Test")) dX5_readTest_40 rfl (Or.inl ⟨_, rfl⟩) (Or.inr ⟨_, rfl⟩) hq
def w_X5_readPathTest (l : Launch) (G : mv_G) (d : Nat) (u0 : Nat) (u1 : Int32) (h : mv_H) (Q : mv_O → mv_H → Prop) : Prop :=
  vgb h u0 7 0 fun x1 =>
  vgi h x1 2 1 fun x4 =>
  vob h u0 7 (
  mv_rq l G mX5_readPath d 0 (mv_in [.ref u0, .int u1] 4) [] h (vB (fun E h1 => Q (.inr E) h1) (fun x10 h10 =>
  vob h10 u0 7 (
  mv_rq l G mX5_seesRelation d 0 (mv_in [.ref u0] 2) [] h10 (vI (fun E h1 => Q (.inr E) h1) (fun x15 h15 =>
  vif (x15 = 0) (
    vnw h15 8 (.inr (11, [.int 0, .null, .null, .null, .null, .null, .int 0, .null])) fun a33 h33 =>
    mv_rq l G mX9_init d 0 (mv_in [.ref a33, .int 3] 2) [] h33 (vU (fun E h1 => Q (.inr E) h1) (fun h38 =>
    vpu G h38 a33 11 4 (.ref x10) fun h46 =>
    Q (.inl (some (.ref a33))) h46))) (
    vob h15 u0 7 (
    mv_rq l G mX5_thingOfPath d 0 (mv_in [.ref u0, .ref x10, .int x4] 4) [] h15 (vB (fun E h1 => Q (.inr E) h1) (fun x25 h25 =>
    vob h25 u0 7 (
    mv_rq l G mX5_readComparison d 0 (mv_in [.ref u0, .ref x25, .int u1] 4) [] h25 (vB (fun E h1 => Q (.inr E) h1) (fun x29 h29 =>
    Q (.inl (some (.ref x29))) h29)))))))))))))
theorem v_X5_readPathTest {l : Launch} {G : mv_G} {d : Nat} {u0 : Nat} {u1 : Int32} {h : mv_H} {Q : mv_O → mv_H → Prop} (hG : mv_ok G) (hq : w_X5_readPathTest l G d u0 u1 h Q) : mv_rq l G mX5_readPathTest (d + 1) 0 (mv_in [.ref u0, .int u1] 5) [] h Q := by
  unfold w_X5_readPathTest at hq
  show mv_rq l G mX5_readPathTest (d + 1) 0 [some (.ref u0), some (.int u1), none, none, none] [] h _
  refine q_aload_n dX5_readPathTest_0 rfl ?_
  obtain ⟨fs1, x1, f1, g1, hq⟩ := vgb_e hq
  refine q_getf (k := 0) (T := TX5) (C0 := RX5) (N := 2) (ci := 7) dX5_readPathTest_1 fl_RX5_12 rfl uin_RX5 (by decide) rfl f1 g1 ?_
  obtain ⟨fs4, x4, f4, g4, hq⟩ := vgi_e hq
  refine q_getf (k := 1) (T := TX0) (C0 := RX0) (N := 3) (ci := 2) dX5_readPathTest_4 fl_RX5_30 rfl uin_RX0 (by decide) rfl f4 g4 ?_
  refine q_istore_n dX5_readPathTest_7 (Nat.le_of_ble_eq_true rfl) rfl ?_
  show mv_rq l G mX5_readPathTest (d + 1) 8 [some (.ref u0), some (.int u1), some (.int x4), none, none] [] h _
  refine q_aload_n dX5_readPathTest_8 rfl ?_
  refine q_iload_n dX5_readPathTest_9 rfl ?_
  obtain ⟨⟨fs10, f10⟩, hq⟩ := vob_e hq
  refine q_cV (Y := mX5_readPath) (As := [.int u1]) (st := []) (b := u0) (ci := 7) vc_X5_readPath dX5_readPathTest_10 ml_RX5_38 rfl f10 rfl (Nat.le_of_ble_eq_true rfl) rfl (Nat.le_of_ble_eq_true rfl) hq (fun v h1 hq1 => ?_) (fun E h1 hq1 => ?_)
  rotate_left
  ·
    rcases hq1 with hq1 | ⟨E1, e1, hq1⟩
    · obtain ⟨_, z, _⟩ := hq1; exact nomatch z
    · obtain rfl := Sum.inr.inj e1; exact q_xout (fun z hz => nomatch hz) hq1
  rcases hq1 with hq1 | ⟨E1, e1, hq1⟩
  rotate_left
  · exact nomatch e1
  obtain ⟨x10, hv, hq⟩ := hq1
  obtain rfl := Sum.inl.inj hv
  clear hv
  obtain ⟨h10, eh10⟩ : ∃ z, z = h1 := ⟨_, rfl⟩
  rw [← eh10] at hq ⊢
  clear eh10
  show mv_rq l G mX5_readPathTest (d + 1) 13 [some (.ref u0), some (.int u1), some (.int x4), none, none] [.ref x10] h10 _
  refine q_astore_n dX5_readPathTest_13 (Nat.le_of_ble_eq_true rfl) rfl ?_
  show mv_rq l G mX5_readPathTest (d + 1) 14 [some (.ref u0), some (.int u1), some (.int x4), some (.ref x10), none] [] h10 _
  refine q_aload_n dX5_readPathTest_14 rfl ?_
  obtain ⟨⟨fs15, f15⟩, hq⟩ := vob_e hq
  refine q_cV (Y := mX5_seesRelation) (As := []) (st := []) (b := u0) (ci := 7) vc_X5_seesRelation dX5_readPathTest_15 ml_RX5_180 rfl f15 rfl (Nat.le_of_ble_eq_true rfl) rfl (Nat.le_of_ble_eq_true rfl) hq (fun v h1 hq1 => ?_) (fun E h1 hq1 => ?_)
  rotate_left
  ·
    rcases hq1 with hq1 | ⟨E1, e1, hq1⟩
    · obtain ⟨_, z, _⟩ := hq1; exact nomatch z
    · obtain rfl := Sum.inr.inj e1; exact q_xout (fun z hz => nomatch hz) hq1
  rcases hq1 with hq1 | ⟨E1, e1, hq1⟩
  rotate_left
  · exact nomatch e1
  obtain ⟨x15, hv, hq⟩ := hq1
  obtain rfl := Sum.inl.inj hv
  clear hv
  obtain ⟨h15, eh15⟩ : ∃ z, z = h1 := ⟨_, rfl⟩
  rw [← eh15] at hq ⊢
  clear eh15
  show mv_rq l G mX5_readPathTest (d + 1) 18 [some (.ref u0), some (.int u1), some (.int x4), some (.ref x10), none] [.int x15] h15 _
  refine q_if_eq (tgt := 33) dX5_readPathTest_18 (by decide) (fun c18 => ?_) (fun c18 => ?_)
  ·
    have hq := vif_t hq c18
    obtain ⟨a33, h33, ea33, eh33, hq⟩ := vnw_e hq
    refine q_new (fs := [.int 0, .null, .null, .null, .null, .null, .int 0, .null]) (ci := 11) (T := TX9) (N := 8) tyX9 tyX9_ok dX5_readPathTest_33 cl_RX5_154 inst_RX9 init_RX9 uin_RX9 rfl (by decide) ?_
    rw [← eh33, ← ea33]
    show mv_rq l G mX5_readPathTest (d + 1) 36 [some (.ref u0), some (.int u1), some (.int x4), some (.ref x10), none] [.ref a33] h33 _
    refine q_dup dX5_readPathTest_36 rfl ?_
    refine q_iconst (v := 3) dX5_readPathTest_37 (by decide) ?_
    refine q_cI (Y := mX9_init) (As := [.int 3]) (st := [.ref a33]) (b := a33) ic_X9_init dX5_readPathTest_38 ml_RX5_156 rfl (Nat.le_of_ble_eq_true rfl) rfl (Nat.le_of_ble_eq_true rfl) hq (fun v h1 hq1 => ?_) (fun E h1 hq1 => ?_)
    rotate_left
    ·
      rcases hq1 with hq1 | ⟨E1, e1, hq1⟩
      · exact nomatch hq1.1
      · obtain rfl := Sum.inr.inj e1; exact q_xout (fun z hz => nomatch hz) hq1
    rcases hq1 with hq1 | ⟨E1, e1, hq1⟩
    rotate_left
    · exact nomatch e1
    obtain ⟨hv, hq⟩ := hq1
    obtain rfl := Sum.inl.inj hv
    clear hv
    obtain ⟨h38, eh38⟩ : ∃ z, z = h1 := ⟨_, rfl⟩
    rw [← eh38] at hq ⊢
    clear eh38
    show mv_rq l G mX5_readPathTest (d + 1) 41 [some (.ref u0), some (.int u1), some (.int x4), some (.ref x10), none] [.ref a33] h38 _
    refine q_astore dX5_readPathTest_41 (Nat.le_of_ble_eq_true rfl) rfl ?_
    show mv_rq l G mX5_readPathTest (d + 1) 43 [some (.ref u0), some (.int u1), some (.int x4), some (.ref x10), some (.ref a33)] [] h38 _
    refine q_aload dX5_readPathTest_43 rfl ?_
    refine q_aload_n dX5_readPathTest_45 rfl ?_
    obtain ⟨fs46, h46, f46, b46, l46, e46, hq⟩ := vpu_e hq
    refine q_putf (k := 4) (T := TX9) (C0 := RX9) (N := 8) (ci := 11) (ty := (.object "TreePaths$Path")) tyX9 tyX9_ok nmX9 dX5_readPathTest_46 fl_RX5_187 rfl uin_RX9 (by decide) rfl rfl (by decide +kernel) rfl rfl b46 f46 l46 ?_
    rw [← e46]
    show mv_rq l G mX5_readPathTest (d + 1) 49 [some (.ref u0), some (.int u1), some (.int x4), some (.ref x10), some (.ref a33)] [] h46 _
    refine q_aload dX5_readPathTest_49 rfl ?_
    exact q_aret (rt := (.object "TreePaths$Test")) dX5_readPathTest_51 rfl (Or.inl ⟨_, rfl⟩) (Or.inr ⟨_, rfl⟩) hq
  ·
    have hq := vif_f hq c18
    refine q_aload_n dX5_readPathTest_21 rfl ?_
    refine q_aload_n dX5_readPathTest_22 rfl ?_
    refine q_aload_n dX5_readPathTest_23 rfl ?_
    refine q_iload_n dX5_readPathTest_24 rfl ?_
    obtain ⟨⟨fs25, f25⟩, hq⟩ := vob_e hq
    refine q_cV (Y := mX5_thingOfPath) (As := [.ref x10, .int x4]) (st := [.ref u0]) (b := u0) (ci := 7) vc_X5_thingOfPath dX5_readPathTest_25 ml_RX5_183 rfl f25 rfl (Nat.le_of_ble_eq_true rfl) rfl (Nat.le_of_ble_eq_true rfl) hq (fun v h1 hq1 => ?_) (fun E h1 hq1 => ?_)
    rotate_left
    ·
      rcases hq1 with hq1 | ⟨E1, e1, hq1⟩
      · obtain ⟨_, z, _⟩ := hq1; exact nomatch z
      · obtain rfl := Sum.inr.inj e1; exact q_xout (fun z hz => nomatch hz) hq1
    rcases hq1 with hq1 | ⟨E1, e1, hq1⟩
    rotate_left
    · exact nomatch e1
    obtain ⟨x25, hv, hq⟩ := hq1
    obtain rfl := Sum.inl.inj hv
    clear hv
    obtain ⟨h25, eh25⟩ : ∃ z, z = h1 := ⟨_, rfl⟩
    rw [← eh25] at hq ⊢
    clear eh25
    show mv_rq l G mX5_readPathTest (d + 1) 28 [some (.ref u0), some (.int u1), some (.int x4), some (.ref x10), none] [.ref x25, .ref u0] h25 _
    refine q_iload_n dX5_readPathTest_28 rfl ?_
    obtain ⟨⟨fs29, f29⟩, hq⟩ := vob_e hq
    refine q_cV (Y := mX5_readComparison) (As := [.ref x25, .int u1]) (st := []) (b := u0) (ci := 7) vc_X5_readComparison dX5_readPathTest_29 ml_RX5_176 rfl f29 rfl (Nat.le_of_ble_eq_true rfl) rfl (Nat.le_of_ble_eq_true rfl) hq (fun v h1 hq1 => ?_) (fun E h1 hq1 => ?_)
    rotate_left
    ·
      rcases hq1 with hq1 | ⟨E1, e1, hq1⟩
      · obtain ⟨_, z, _⟩ := hq1; exact nomatch z
      · obtain rfl := Sum.inr.inj e1; exact q_xout (fun z hz => nomatch hz) hq1
    rcases hq1 with hq1 | ⟨E1, e1, hq1⟩
    rotate_left
    · exact nomatch e1
    obtain ⟨x29, hv, hq⟩ := hq1
    obtain rfl := Sum.inl.inj hv
    clear hv
    obtain ⟨h29, eh29⟩ : ∃ z, z = h1 := ⟨_, rfl⟩
    rw [← eh29] at hq ⊢
    clear eh29
    show mv_rq l G mX5_readPathTest (d + 1) 32 [some (.ref u0), some (.int u1), some (.int x4), some (.ref x10), none] [.ref x29] h29 _
    exact q_aret (rt := (.object "TreePaths$Test")) dX5_readPathTest_32 rfl (Or.inl ⟨_, rfl⟩) (Or.inr ⟨_, rfl⟩) hq
def w_X5_readComparison (l : Launch) (G : mv_G) (d : Nat) (u0 : Nat) (u1 : Nat) (u2 : Int32) (h : mv_H) (Q : mv_O → mv_H → Prop) : Prop :=
  vnw h 8 (.inr (11, [.int 0, .null, .null, .null, .null, .null, .int 0, .null])) fun a0 h0 =>
  mv_rq l G mX9_init d 0 (mv_in [.ref a0, .int 4] 2) [] h0 (vU (fun E h1 => Q (.inr E) h1) (fun h5 =>
  vpu G h5 a0 11 5 (.ref u1) fun h11 =>
  vob h11 u0 7 (
  mv_rq l G mX5_readRelation d 0 (mv_in [.ref u0] 2) [] h11 (vI (fun E h1 => Q (.inr E) h1) (fun x16 h16 =>
  vpu G h16 a0 11 6 (.int x16) fun h19 =>
  vob h19 u0 7 (
  mv_rq l G mX5_readThing d 0 (mv_in [.ref u0, .int u2] 4) [] h19 (vB (fun E h1 => Q (.inr E) h1) (fun x25 h25 =>
  vpu G h25 a0 11 7 (.ref x25) fun h28 =>
  Q (.inl (some (.ref a0))) h28))))))))
theorem v_X5_readComparison {l : Launch} {G : mv_G} {d : Nat} {u0 : Nat} {u1 : Nat} {u2 : Int32} {h : mv_H} {Q : mv_O → mv_H → Prop} (hG : mv_ok G) (hq : w_X5_readComparison l G d u0 u1 u2 h Q) : mv_rq l G mX5_readComparison (d + 1) 0 (mv_in [.ref u0, .ref u1, .int u2] 4) [] h Q := by
  unfold w_X5_readComparison at hq
  show mv_rq l G mX5_readComparison (d + 1) 0 [some (.ref u0), some (.ref u1), some (.int u2), none] [] h _
  obtain ⟨a0, h0, ea0, eh0, hq⟩ := vnw_e hq
  refine q_new (fs := [.int 0, .null, .null, .null, .null, .null, .int 0, .null]) (ci := 11) (T := TX9) (N := 8) tyX9 tyX9_ok dX5_readComparison_0 cl_RX5_154 inst_RX9 init_RX9 uin_RX9 rfl (by decide) ?_
  rw [← eh0, ← ea0]
  show mv_rq l G mX5_readComparison (d + 1) 3 [some (.ref u0), some (.ref u1), some (.int u2), none] [.ref a0] h0 _
  refine q_dup dX5_readComparison_3 rfl ?_
  refine q_iconst (v := 4) dX5_readComparison_4 (by decide) ?_
  refine q_cI (Y := mX9_init) (As := [.int 4]) (st := [.ref a0]) (b := a0) ic_X9_init dX5_readComparison_5 ml_RX5_156 rfl (Nat.le_of_ble_eq_true rfl) rfl (Nat.le_of_ble_eq_true rfl) hq (fun v h1 hq1 => ?_) (fun E h1 hq1 => ?_)
  rotate_left
  ·
    rcases hq1 with hq1 | ⟨E1, e1, hq1⟩
    · exact nomatch hq1.1
    · obtain rfl := Sum.inr.inj e1; exact q_xout (fun z hz => nomatch hz) hq1
  rcases hq1 with hq1 | ⟨E1, e1, hq1⟩
  rotate_left
  · exact nomatch e1
  obtain ⟨hv, hq⟩ := hq1
  obtain rfl := Sum.inl.inj hv
  clear hv
  obtain ⟨h5, eh5⟩ : ∃ z, z = h1 := ⟨_, rfl⟩
  rw [← eh5] at hq ⊢
  clear eh5
  show mv_rq l G mX5_readComparison (d + 1) 8 [some (.ref u0), some (.ref u1), some (.int u2), none] [.ref a0] h5 _
  refine q_astore_n dX5_readComparison_8 (Nat.le_of_ble_eq_true rfl) rfl ?_
  show mv_rq l G mX5_readComparison (d + 1) 9 [some (.ref u0), some (.ref u1), some (.int u2), some (.ref a0)] [] h5 _
  refine q_aload_n dX5_readComparison_9 rfl ?_
  refine q_aload_n dX5_readComparison_10 rfl ?_
  obtain ⟨fs11, h11, f11, b11, l11, e11, hq⟩ := vpu_e hq
  refine q_putf (k := 5) (T := TX9) (C0 := RX9) (N := 8) (ci := 11) (ty := (.object "TreePaths$Thing")) tyX9 tyX9_ok nmX9 dX5_readComparison_11 fl_RX5_190 rfl uin_RX9 (by decide) rfl rfl (by decide +kernel) rfl rfl b11 f11 l11 ?_
  rw [← e11]
  show mv_rq l G mX5_readComparison (d + 1) 14 [some (.ref u0), some (.ref u1), some (.int u2), some (.ref a0)] [] h11 _
  refine q_aload_n dX5_readComparison_14 rfl ?_
  refine q_aload_n dX5_readComparison_15 rfl ?_
  obtain ⟨⟨fs16, f16⟩, hq⟩ := vob_e hq
  refine q_cV (Y := mX5_readRelation) (As := []) (st := [.ref a0]) (b := u0) (ci := 7) vc_X5_readRelation dX5_readComparison_16 ml_RX5_194 rfl f16 rfl (Nat.le_of_ble_eq_true rfl) rfl (Nat.le_of_ble_eq_true rfl) hq (fun v h1 hq1 => ?_) (fun E h1 hq1 => ?_)
  rotate_left
  ·
    rcases hq1 with hq1 | ⟨E1, e1, hq1⟩
    · obtain ⟨_, z, _⟩ := hq1; exact nomatch z
    · obtain rfl := Sum.inr.inj e1; exact q_xout (fun z hz => nomatch hz) hq1
  rcases hq1 with hq1 | ⟨E1, e1, hq1⟩
  rotate_left
  · exact nomatch e1
  obtain ⟨x16, hv, hq⟩ := hq1
  obtain rfl := Sum.inl.inj hv
  clear hv
  obtain ⟨h16, eh16⟩ : ∃ z, z = h1 := ⟨_, rfl⟩
  rw [← eh16] at hq ⊢
  clear eh16
  show mv_rq l G mX5_readComparison (d + 1) 19 [some (.ref u0), some (.ref u1), some (.int u2), some (.ref a0)] [.int x16, .ref a0] h16 _
  obtain ⟨fs19, h19, f19, b19, l19, e19, hq⟩ := vpu_e hq
  refine q_putf (k := 6) (T := TX9) (C0 := RX9) (N := 8) (ci := 11) (ty := .int) tyX9 tyX9_ok nmX9 dX5_readComparison_19 fl_RX5_198 rfl uin_RX9 (by decide) rfl rfl (by decide +kernel) rfl rfl b19 f19 l19 ?_
  rw [← e19]
  show mv_rq l G mX5_readComparison (d + 1) 22 [some (.ref u0), some (.ref u1), some (.int u2), some (.ref a0)] [] h19 _
  refine q_aload_n dX5_readComparison_22 rfl ?_
  refine q_aload_n dX5_readComparison_23 rfl ?_
  refine q_iload_n dX5_readComparison_24 rfl ?_
  obtain ⟨⟨fs25, f25⟩, hq⟩ := vob_e hq
  refine q_cV (Y := mX5_readThing) (As := [.int u2]) (st := [.ref a0]) (b := u0) (ci := 7) vc_X5_readThing dX5_readComparison_25 ml_RX5_172 rfl f25 rfl (Nat.le_of_ble_eq_true rfl) rfl (Nat.le_of_ble_eq_true rfl) hq (fun v h1 hq1 => ?_) (fun E h1 hq1 => ?_)
  rotate_left
  ·
    rcases hq1 with hq1 | ⟨E1, e1, hq1⟩
    · obtain ⟨_, z, _⟩ := hq1; exact nomatch z
    · obtain rfl := Sum.inr.inj e1; exact q_xout (fun z hz => nomatch hz) hq1
  rcases hq1 with hq1 | ⟨E1, e1, hq1⟩
  rotate_left
  · exact nomatch e1
  obtain ⟨x25, hv, hq⟩ := hq1
  obtain rfl := Sum.inl.inj hv
  clear hv
  obtain ⟨h25, eh25⟩ : ∃ z, z = h1 := ⟨_, rfl⟩
  rw [← eh25] at hq ⊢
  clear eh25
  show mv_rq l G mX5_readComparison (d + 1) 28 [some (.ref u0), some (.ref u1), some (.int u2), some (.ref a0)] [.ref x25, .ref a0] h25 _
  obtain ⟨fs28, h28, f28, b28, l28, e28, hq⟩ := vpu_e hq
  refine q_putf (k := 7) (T := TX9) (C0 := RX9) (N := 8) (ci := 11) (ty := (.object "TreePaths$Thing")) tyX9 tyX9_ok nmX9 dX5_readComparison_28 fl_RX5_201 rfl uin_RX9 (by decide) rfl rfl (by decide +kernel) rfl rfl b28 f28 l28 ?_
  rw [← e28]
  show mv_rq l G mX5_readComparison (d + 1) 31 [some (.ref u0), some (.ref u1), some (.int u2), some (.ref a0)] [] h28 _
  refine q_aload_n dX5_readComparison_31 rfl ?_
  exact q_aret (rt := (.object "TreePaths$Test")) dX5_readComparison_32 rfl (Or.inl ⟨_, rfl⟩) (Or.inr ⟨_, rfl⟩) hq
def w_X5_seesRelation (l : Launch) (G : mv_G) (d : Nat) (u0 : Nat) (h : mv_H) (Q : mv_O → mv_H → Prop) : Prop :=
  vgb h u0 7 0 fun x1 =>
  vob h x1 2 (
  mv_rq l G mX0_look d 0 (mv_in [.ref x1] 1) [] h (vI (fun E h1 => Q (.inr E) h1) (fun x4 h4 =>
  vif (x4 = 61) (
    Q (.inl (some (.int 1))) h4) (
    vif (x4 = 33) (
      Q (.inl (some (.int 1))) h4) (
      vif (x4 = 60) (
        Q (.inl (some (.int 1))) h4) (
        vif (x4 = 62) (
          Q (.inl (some (.int 1))) h4) (
          Q (.inl (some (.int 0))) h4)))))))
theorem v_X5_seesRelation {l : Launch} {G : mv_G} {d : Nat} {u0 : Nat} {h : mv_H} {Q : mv_O → mv_H → Prop} (hG : mv_ok G) (hq : w_X5_seesRelation l G d u0 h Q) : mv_rq l G mX5_seesRelation (d + 1) 0 (mv_in [.ref u0] 2) [] h Q := by
  unfold w_X5_seesRelation at hq
  show mv_rq l G mX5_seesRelation (d + 1) 0 [some (.ref u0), none] [] h _
  refine q_aload_n dX5_seesRelation_0 rfl ?_
  obtain ⟨fs1, x1, f1, g1, hq⟩ := vgb_e hq
  refine q_getf (k := 0) (T := TX5) (C0 := RX5) (N := 2) (ci := 7) dX5_seesRelation_1 fl_RX5_12 rfl uin_RX5 (by decide) rfl f1 g1 ?_
  obtain ⟨⟨fs4, f4⟩, hq⟩ := vob_e hq
  refine q_cV (Y := mX0_look) (As := []) (st := []) (b := x1) (ci := 2) vc_X0_look dX5_seesRelation_4 ml_RX5_26 rfl f4 rfl (Nat.le_of_ble_eq_true rfl) rfl (Nat.le_of_ble_eq_true rfl) hq (fun v h1 hq1 => ?_) (fun E h1 hq1 => ?_)
  rotate_left
  ·
    rcases hq1 with hq1 | ⟨E1, e1, hq1⟩
    · obtain ⟨_, z, _⟩ := hq1; exact nomatch z
    · obtain rfl := Sum.inr.inj e1; exact q_xout (fun z hz => nomatch hz) hq1
  rcases hq1 with hq1 | ⟨E1, e1, hq1⟩
  rotate_left
  · exact nomatch e1
  obtain ⟨x4, hv, hq⟩ := hq1
  obtain rfl := Sum.inl.inj hv
  clear hv
  obtain ⟨h4, eh4⟩ : ∃ z, z = h1 := ⟨_, rfl⟩
  rw [← eh4] at hq ⊢
  clear eh4
  show mv_rq l G mX5_seesRelation (d + 1) 7 [some (.ref u0), none] [.int x4] h4 _
  refine q_istore_n dX5_seesRelation_7 (Nat.le_of_ble_eq_true rfl) rfl ?_
  show mv_rq l G mX5_seesRelation (d + 1) 8 [some (.ref u0), some (.int x4)] [] h4 _
  refine q_iload_n dX5_seesRelation_8 rfl ?_
  refine q_bipush (v := 61) dX5_seesRelation_9 (by decide) ?_
  refine q_icmp_eq (tgt := 32) dX5_seesRelation_11 (by decide) (fun c11 => ?_) (fun c11 => ?_)
  ·
    have hq := vif_t hq c11
    refine q_iconst (v := 1) dX5_seesRelation_32 (by decide) ?_
    refine q_goto (tgt := 37) dX5_seesRelation_33 (by decide) ?_
    exact q_iret (ty := .boolean) dX5_seesRelation_37 rfl rfl hq
  ·
    have hq := vif_f hq c11
    refine q_iload_n dX5_seesRelation_14 rfl ?_
    refine q_bipush (v := 33) dX5_seesRelation_15 (by decide) ?_
    refine q_icmp_eq (tgt := 32) dX5_seesRelation_17 (by decide) (fun c17 => ?_) (fun c17 => ?_)
    ·
      have hq := vif_t hq c17
      refine q_iconst (v := 1) dX5_seesRelation_32 (by decide) ?_
      refine q_goto (tgt := 37) dX5_seesRelation_33 (by decide) ?_
      exact q_iret (ty := .boolean) dX5_seesRelation_37 rfl rfl hq
    ·
      have hq := vif_f hq c17
      refine q_iload_n dX5_seesRelation_20 rfl ?_
      refine q_bipush (v := 60) dX5_seesRelation_21 (by decide) ?_
      refine q_icmp_eq (tgt := 32) dX5_seesRelation_23 (by decide) (fun c23 => ?_) (fun c23 => ?_)
      ·
        have hq := vif_t hq c23
        refine q_iconst (v := 1) dX5_seesRelation_32 (by decide) ?_
        refine q_goto (tgt := 37) dX5_seesRelation_33 (by decide) ?_
        exact q_iret (ty := .boolean) dX5_seesRelation_37 rfl rfl hq
      ·
        have hq := vif_f hq c23
        refine q_iload_n dX5_seesRelation_26 rfl ?_
        refine q_bipush (v := 62) dX5_seesRelation_27 (by decide) ?_
        refine q_icmp_ne (tgt := 36) dX5_seesRelation_29 (by decide) (fun c29 => ?_) (fun c29 => ?_)
        ·
          have hq := vif_f hq c29
          refine q_iconst (v := 0) dX5_seesRelation_36 (by decide) ?_
          exact q_iret (ty := .boolean) dX5_seesRelation_37 rfl rfl hq
        ·
          have hq := vif_t hq c29
          refine q_iconst (v := 1) dX5_seesRelation_32 (by decide) ?_
          refine q_goto (tgt := 37) dX5_seesRelation_33 (by decide) ?_
          exact q_iret (ty := .boolean) dX5_seesRelation_37 rfl rfl hq
def w_X5_readRelation (l : Launch) (G : mv_G) (d : Nat) (u0 : Nat) (h : mv_H) (Q : mv_O → mv_H → Prop) : Prop :=
  vgb h u0 7 0 fun x1 =>
  vob h x1 2 (
  mv_rq l G mX0_passes d 0 (mv_in [.ref x1, .int 60] 2) [] h (vI (fun E h1 => Q (.inr E) h1) (fun x6 h6 =>
  vif (x6 = 0) (
    vgb h6 u0 7 0 fun x31 =>
    vob h6 x31 2 (
    mv_rq l G mX0_passes d 0 (mv_in [.ref x31, .int 62] 2) [] h6 (vI (fun E h1 => Q (.inr E) h1) (fun x36 h36 =>
    vif (x36 = 0) (
      vgb h36 u0 7 0 fun x61 =>
      vob h36 x61 2 (
      mv_rq l G mX0_passes d 0 (mv_in [.ref x61, .int 33] 2) [] h36 (vI (fun E h1 => Q (.inr E) h1) (fun x66 h66 =>
      vif (x66 = 0) (
        vgb h66 u0 7 0 fun x75 =>
        vob h66 x75 2 (
        mv_rq l G mX0_expect d 0 (mv_in [.ref x75, .int 61] 2) [] h66 (vU (fun E h1 => Q (.inr E) h1) (fun h80 =>
        mv_rq l G mX5_readRelation (d + 1) 83 [some (.ref u0), some (.int x66)] [] h80 Q)))) (
        mv_rq l G mX5_readRelation (d + 1) 83 [some (.ref u0), some (.int x66)] [] h66 Q))))) (
      vgb h36 u0 7 0 fun x43 =>
      vob h36 x43 2 (
      mv_rq l G mX0_passes d 0 (mv_in [.ref x43, .int 61] 2) [] h36 (vI (fun E h1 => Q (.inr E) h1) (fun x48 h48 =>
      vif (x48 = 0) (
        Q (.inl (some (.int 4))) h48) (
        Q (.inl (some (.int 5))) h48))))))))) (
    vgb h6 u0 7 0 fun x13 =>
    vob h6 x13 2 (
    mv_rq l G mX0_passes d 0 (mv_in [.ref x13, .int 61] 2) [] h6 (vI (fun E h1 => Q (.inr E) h1) (fun x18 h18 =>
    vif (x18 = 0) (
      Q (.inl (some (.int 2))) h18) (
      Q (.inl (some (.int 3))) h18))))))))
theorem v_X5_readRelation {l : Launch} {G : mv_G} {d : Nat} {u0 : Nat} {h : mv_H} {Q : mv_O → mv_H → Prop} (hG : mv_ok G) (hq : w_X5_readRelation l G d u0 h Q) : mv_rq l G mX5_readRelation (d + 1) 0 (mv_in [.ref u0] 2) [] h Q := by
  unfold w_X5_readRelation at hq
  show mv_rq l G mX5_readRelation (d + 1) 0 [some (.ref u0), none] [] h _
  refine q_aload_n dX5_readRelation_0 rfl ?_
  obtain ⟨fs1, x1, f1, g1, hq⟩ := vgb_e hq
  refine q_getf (k := 0) (T := TX5) (C0 := RX5) (N := 2) (ci := 7) dX5_readRelation_1 fl_RX5_12 rfl uin_RX5 (by decide) rfl f1 g1 ?_
  refine q_bipush (v := 60) dX5_readRelation_4 (by decide) ?_
  obtain ⟨⟨fs6, f6⟩, hq⟩ := vob_e hq
  refine q_cV (Y := mX0_passes) (As := [.int 60]) (st := []) (b := x1) (ci := 2) vc_X0_passes dX5_readRelation_6 ml_RX5_70 rfl f6 rfl (Nat.le_of_ble_eq_true rfl) rfl (Nat.le_of_ble_eq_true rfl) hq (fun v h1 hq1 => ?_) (fun E h1 hq1 => ?_)
  rotate_left
  ·
    rcases hq1 with hq1 | ⟨E1, e1, hq1⟩
    · obtain ⟨_, z, _⟩ := hq1; exact nomatch z
    · obtain rfl := Sum.inr.inj e1; exact q_xout (fun z hz => nomatch hz) hq1
  rcases hq1 with hq1 | ⟨E1, e1, hq1⟩
  rotate_left
  · exact nomatch e1
  obtain ⟨x6, hv, hq⟩ := hq1
  obtain rfl := Sum.inl.inj hv
  clear hv
  obtain ⟨h6, eh6⟩ : ∃ z, z = h1 := ⟨_, rfl⟩
  rw [← eh6] at hq ⊢
  clear eh6
  show mv_rq l G mX5_readRelation (d + 1) 9 [some (.ref u0), none] [.int x6] h6 _
  refine q_if_eq (tgt := 30) dX5_readRelation_9 (by decide) (fun c9 => ?_) (fun c9 => ?_)
  ·
    have hq := vif_t hq c9
    refine q_aload_n dX5_readRelation_30 rfl ?_
    obtain ⟨fs31, x31, f31, g31, hq⟩ := vgb_e hq
    refine q_getf (k := 0) (T := TX5) (C0 := RX5) (N := 2) (ci := 7) dX5_readRelation_31 fl_RX5_12 rfl uin_RX5 (by decide) rfl f31 g31 ?_
    refine q_bipush (v := 62) dX5_readRelation_34 (by decide) ?_
    obtain ⟨⟨fs36, f36⟩, hq⟩ := vob_e hq
    refine q_cV (Y := mX0_passes) (As := [.int 62]) (st := []) (b := x31) (ci := 2) vc_X0_passes dX5_readRelation_36 ml_RX5_70 rfl f36 rfl (Nat.le_of_ble_eq_true rfl) rfl (Nat.le_of_ble_eq_true rfl) hq (fun v h1 hq1 => ?_) (fun E h1 hq1 => ?_)
    rotate_left
    ·
      rcases hq1 with hq1 | ⟨E1, e1, hq1⟩
      · obtain ⟨_, z, _⟩ := hq1; exact nomatch z
      · obtain rfl := Sum.inr.inj e1; exact q_xout (fun z hz => nomatch hz) hq1
    rcases hq1 with hq1 | ⟨E1, e1, hq1⟩
    rotate_left
    · exact nomatch e1
    obtain ⟨x36, hv, hq⟩ := hq1
    obtain rfl := Sum.inl.inj hv
    clear hv
    obtain ⟨h36, eh36⟩ : ∃ z, z = h1 := ⟨_, rfl⟩
    rw [← eh36] at hq ⊢
    clear eh36
    show mv_rq l G mX5_readRelation (d + 1) 39 [some (.ref u0), none] [.int x36] h36 _
    refine q_if_eq (tgt := 60) dX5_readRelation_39 (by decide) (fun c39 => ?_) (fun c39 => ?_)
    ·
      have hq := vif_t hq c39
      refine q_aload_n dX5_readRelation_60 rfl ?_
      obtain ⟨fs61, x61, f61, g61, hq⟩ := vgb_e hq
      refine q_getf (k := 0) (T := TX5) (C0 := RX5) (N := 2) (ci := 7) dX5_readRelation_61 fl_RX5_12 rfl uin_RX5 (by decide) rfl f61 g61 ?_
      refine q_bipush (v := 33) dX5_readRelation_64 (by decide) ?_
      obtain ⟨⟨fs66, f66⟩, hq⟩ := vob_e hq
      refine q_cV (Y := mX0_passes) (As := [.int 33]) (st := []) (b := x61) (ci := 2) vc_X0_passes dX5_readRelation_66 ml_RX5_70 rfl f66 rfl (Nat.le_of_ble_eq_true rfl) rfl (Nat.le_of_ble_eq_true rfl) hq (fun v h1 hq1 => ?_) (fun E h1 hq1 => ?_)
      rotate_left
      ·
        rcases hq1 with hq1 | ⟨E1, e1, hq1⟩
        · obtain ⟨_, z, _⟩ := hq1; exact nomatch z
        · obtain rfl := Sum.inr.inj e1; exact q_xout (fun z hz => nomatch hz) hq1
      rcases hq1 with hq1 | ⟨E1, e1, hq1⟩
      rotate_left
      · exact nomatch e1
      obtain ⟨x66, hv, hq⟩ := hq1
      obtain rfl := Sum.inl.inj hv
      clear hv
      obtain ⟨h66, eh66⟩ : ∃ z, z = h1 := ⟨_, rfl⟩
      rw [← eh66] at hq ⊢
      clear eh66
      show mv_rq l G mX5_readRelation (d + 1) 69 [some (.ref u0), none] [.int x66] h66 _
      refine q_istore_n dX5_readRelation_69 (Nat.le_of_ble_eq_true rfl) rfl ?_
      show mv_rq l G mX5_readRelation (d + 1) 70 [some (.ref u0), some (.int x66)] [] h66 _
      refine q_iload_n dX5_readRelation_70 rfl ?_
      refine q_if_ne (tgt := 83) dX5_readRelation_71 (by decide) (fun c71 => ?_) (fun c71 => ?_)
      ·
        have hq := vif_f hq c71
        exact mv_weak (A := [some (.ref u0), some (.int x66)]) (by repeat' constructor) hq
      ·
        have hq := vif_t hq c71
        refine q_aload_n dX5_readRelation_74 rfl ?_
        obtain ⟨fs75, x75, f75, g75, hq⟩ := vgb_e hq
        refine q_getf (k := 0) (T := TX5) (C0 := RX5) (N := 2) (ci := 7) dX5_readRelation_75 fl_RX5_12 rfl uin_RX5 (by decide) rfl f75 g75 ?_
        refine q_bipush (v := 61) dX5_readRelation_78 (by decide) ?_
        obtain ⟨⟨fs80, f80⟩, hq⟩ := vob_e hq
        refine q_cV (Y := mX0_expect) (As := [.int 61]) (st := []) (b := x75) (ci := 2) vc_X0_expect dX5_readRelation_80 ml_RX5_100 rfl f80 rfl (Nat.le_of_ble_eq_true rfl) rfl (Nat.le_of_ble_eq_true rfl) hq (fun v h1 hq1 => ?_) (fun E h1 hq1 => ?_)
        rotate_left
        ·
          rcases hq1 with hq1 | ⟨E1, e1, hq1⟩
          · exact nomatch hq1.1
          · obtain rfl := Sum.inr.inj e1; exact q_xout (fun z hz => nomatch hz) hq1
        rcases hq1 with hq1 | ⟨E1, e1, hq1⟩
        rotate_left
        · exact nomatch e1
        obtain ⟨hv, hq⟩ := hq1
        obtain rfl := Sum.inl.inj hv
        clear hv
        obtain ⟨h80, eh80⟩ : ∃ z, z = h1 := ⟨_, rfl⟩
        rw [← eh80] at hq ⊢
        clear eh80
        show mv_rq l G mX5_readRelation (d + 1) 83 [some (.ref u0), some (.int x66)] [] h80 _
        exact mv_weak (A := [some (.ref u0), some (.int x66)]) (by repeat' constructor) hq
    ·
      have hq := vif_f hq c39
      refine q_aload_n dX5_readRelation_42 rfl ?_
      obtain ⟨fs43, x43, f43, g43, hq⟩ := vgb_e hq
      refine q_getf (k := 0) (T := TX5) (C0 := RX5) (N := 2) (ci := 7) dX5_readRelation_43 fl_RX5_12 rfl uin_RX5 (by decide) rfl f43 g43 ?_
      refine q_bipush (v := 61) dX5_readRelation_46 (by decide) ?_
      obtain ⟨⟨fs48, f48⟩, hq⟩ := vob_e hq
      refine q_cV (Y := mX0_passes) (As := [.int 61]) (st := []) (b := x43) (ci := 2) vc_X0_passes dX5_readRelation_48 ml_RX5_70 rfl f48 rfl (Nat.le_of_ble_eq_true rfl) rfl (Nat.le_of_ble_eq_true rfl) hq (fun v h1 hq1 => ?_) (fun E h1 hq1 => ?_)
      rotate_left
      ·
        rcases hq1 with hq1 | ⟨E1, e1, hq1⟩
        · obtain ⟨_, z, _⟩ := hq1; exact nomatch z
        · obtain rfl := Sum.inr.inj e1; exact q_xout (fun z hz => nomatch hz) hq1
      rcases hq1 with hq1 | ⟨E1, e1, hq1⟩
      rotate_left
      · exact nomatch e1
      obtain ⟨x48, hv, hq⟩ := hq1
      obtain rfl := Sum.inl.inj hv
      clear hv
      obtain ⟨h48, eh48⟩ : ∃ z, z = h1 := ⟨_, rfl⟩
      rw [← eh48] at hq ⊢
      clear eh48
      show mv_rq l G mX5_readRelation (d + 1) 51 [some (.ref u0), none] [.int x48] h48 _
      refine q_if_eq (tgt := 58) dX5_readRelation_51 (by decide) (fun c51 => ?_) (fun c51 => ?_)
      ·
        have hq := vif_t hq c51
        refine q_iconst (v := 4) dX5_readRelation_58 (by decide) ?_
        exact q_iret (ty := .int) dX5_readRelation_59 rfl rfl hq
      ·
        have hq := vif_f hq c51
        refine q_iconst (v := 5) dX5_readRelation_54 (by decide) ?_
        refine q_goto (tgt := 59) dX5_readRelation_55 (by decide) ?_
        exact q_iret (ty := .int) dX5_readRelation_59 rfl rfl hq
  ·
    have hq := vif_f hq c9
    refine q_aload_n dX5_readRelation_12 rfl ?_
    obtain ⟨fs13, x13, f13, g13, hq⟩ := vgb_e hq
    refine q_getf (k := 0) (T := TX5) (C0 := RX5) (N := 2) (ci := 7) dX5_readRelation_13 fl_RX5_12 rfl uin_RX5 (by decide) rfl f13 g13 ?_
    refine q_bipush (v := 61) dX5_readRelation_16 (by decide) ?_
    obtain ⟨⟨fs18, f18⟩, hq⟩ := vob_e hq
    refine q_cV (Y := mX0_passes) (As := [.int 61]) (st := []) (b := x13) (ci := 2) vc_X0_passes dX5_readRelation_18 ml_RX5_70 rfl f18 rfl (Nat.le_of_ble_eq_true rfl) rfl (Nat.le_of_ble_eq_true rfl) hq (fun v h1 hq1 => ?_) (fun E h1 hq1 => ?_)
    rotate_left
    ·
      rcases hq1 with hq1 | ⟨E1, e1, hq1⟩
      · obtain ⟨_, z, _⟩ := hq1; exact nomatch z
      · obtain rfl := Sum.inr.inj e1; exact q_xout (fun z hz => nomatch hz) hq1
    rcases hq1 with hq1 | ⟨E1, e1, hq1⟩
    rotate_left
    · exact nomatch e1
    obtain ⟨x18, hv, hq⟩ := hq1
    obtain rfl := Sum.inl.inj hv
    clear hv
    obtain ⟨h18, eh18⟩ : ∃ z, z = h1 := ⟨_, rfl⟩
    rw [← eh18] at hq ⊢
    clear eh18
    show mv_rq l G mX5_readRelation (d + 1) 21 [some (.ref u0), none] [.int x18] h18 _
    refine q_if_eq (tgt := 28) dX5_readRelation_21 (by decide) (fun c21 => ?_) (fun c21 => ?_)
    ·
      have hq := vif_t hq c21
      refine q_iconst (v := 2) dX5_readRelation_28 (by decide) ?_
      exact q_iret (ty := .int) dX5_readRelation_29 rfl rfl hq
    ·
      have hq := vif_f hq c21
      refine q_iconst (v := 3) dX5_readRelation_24 (by decide) ?_
      refine q_goto (tgt := 29) dX5_readRelation_25 (by decide) ?_
      exact q_iret (ty := .int) dX5_readRelation_29 rfl rfl hq
def w_X5_readRelation_83 (l : Launch) (G : mv_G) (d : Nat) (u0 : Nat) (u1 : Int32) (h : mv_H) (Q : mv_O → mv_H → Prop) : Prop :=
  vgb h u0 7 0 fun x84 =>
  vob h x84 2 (
  mv_rq l G mX0_expect d 0 (mv_in [.ref x84, .int 61] 2) [] h (vU (fun E h1 => Q (.inr E) h1) (fun h89 =>
  vif (u1 = 0) (
    Q (.inl (some (.int 0))) h89) (
    Q (.inl (some (.int 1))) h89))))
theorem v_X5_readRelation_83 {l : Launch} {G : mv_G} {d : Nat} {u0 : Nat} {u1 : Int32} {h : mv_H} {Q : mv_O → mv_H → Prop} (hG : mv_ok G) (hq : w_X5_readRelation_83 l G d u0 u1 h Q) : mv_rq l G mX5_readRelation (d + 1) 83 [some (.ref u0), some (.int u1)] [] h Q := by
  unfold w_X5_readRelation_83 at hq
  refine q_aload_n dX5_readRelation_83 rfl ?_
  obtain ⟨fs84, x84, f84, g84, hq⟩ := vgb_e hq
  refine q_getf (k := 0) (T := TX5) (C0 := RX5) (N := 2) (ci := 7) dX5_readRelation_84 fl_RX5_12 rfl uin_RX5 (by decide) rfl f84 g84 ?_
  refine q_bipush (v := 61) dX5_readRelation_87 (by decide) ?_
  obtain ⟨⟨fs89, f89⟩, hq⟩ := vob_e hq
  refine q_cV (Y := mX0_expect) (As := [.int 61]) (st := []) (b := x84) (ci := 2) vc_X0_expect dX5_readRelation_89 ml_RX5_100 rfl f89 rfl (Nat.le_of_ble_eq_true rfl) rfl (Nat.le_of_ble_eq_true rfl) hq (fun v h1 hq1 => ?_) (fun E h1 hq1 => ?_)
  rotate_left
  ·
    rcases hq1 with hq1 | ⟨E1, e1, hq1⟩
    · exact nomatch hq1.1
    · obtain rfl := Sum.inr.inj e1; exact q_xout (fun z hz => nomatch hz) hq1
  rcases hq1 with hq1 | ⟨E1, e1, hq1⟩
  rotate_left
  · exact nomatch e1
  obtain ⟨hv, hq⟩ := hq1
  obtain rfl := Sum.inl.inj hv
  clear hv
  obtain ⟨h89, eh89⟩ : ∃ z, z = h1 := ⟨_, rfl⟩
  rw [← eh89] at hq ⊢
  clear eh89
  show mv_rq l G mX5_readRelation (d + 1) 92 [some (.ref u0), some (.int u1)] [] h89 _
  refine q_iload_n dX5_readRelation_92 rfl ?_
  refine q_if_eq (tgt := 100) dX5_readRelation_93 (by decide) (fun c93 => ?_) (fun c93 => ?_)
  ·
    have hq := vif_t hq c93
    refine q_iconst (v := 0) dX5_readRelation_100 (by decide) ?_
    exact q_iret (ty := .int) dX5_readRelation_101 rfl rfl hq
  ·
    have hq := vif_f hq c93
    refine q_iconst (v := 1) dX5_readRelation_96 (by decide) ?_
    refine q_goto (tgt := 101) dX5_readRelation_97 (by decide) ?_
    exact q_iret (ty := .int) dX5_readRelation_101 rfl rfl hq
def w_X5_readThing (l : Launch) (G : mv_G) (d : Nat) (u0 : Nat) (u1 : Int32) (h : mv_H) (Q : mv_O → mv_H → Prop) : Prop :=
  vgb h u0 7 0 fun x1 =>
  vob h x1 2 (
  mv_rq l G mX0_look d 0 (mv_in [.ref x1] 1) [] h (vI (fun E h1 => Q (.inr E) h1) (fun x4 h4 =>
  vif (x4 = 36) (
    vgb h4 u0 7 0 fun x49 =>
    vgi h4 x49 2 1 fun x52 =>
    vob h4 u0 7 (
    mv_rq l G mX5_readPath d 0 (mv_in [.ref u0, .int u1] 4) [] h4 (vB (fun E h1 => Q (.inr E) h1) (fun x59 h59 =>
    vob h59 u0 7 (
    mv_rq l G mX5_thingOfPath d 0 (mv_in [.ref u0, .ref x59, .int x52] 4) [] h59 (vB (fun E h1 => Q (.inr E) h1) (fun x63 h63 =>
    Q (.inl (some (.ref x63))) h63))))))) (
  vif (x4 = 64) (
    vgb h4 u0 7 0 fun x49 =>
    vgi h4 x49 2 1 fun x52 =>
    vob h4 u0 7 (
    mv_rq l G mX5_readPath d 0 (mv_in [.ref u0, .int u1] 4) [] h4 (vB (fun E h1 => Q (.inr E) h1) (fun x59 h59 =>
    vob h59 u0 7 (
    mv_rq l G mX5_thingOfPath d 0 (mv_in [.ref u0, .ref x59, .int x52] 4) [] h59 (vB (fun E h1 => Q (.inr E) h1) (fun x63 h63 =>
    Q (.inl (some (.ref x63))) h63))))))) (
  vif (x4 = 99) (
    vob h4 u0 7 (
    mv_rq l G mX5_readCount d 0 (mv_in [.ref u0, .int u1] 3) [] h4 (vB (fun E h1 => Q (.inr E) h1) (fun x75 h75 =>
    Q (.inl (some (.ref x75))) h75)))) (
  vif (x4 = 108) (
    vob h4 u0 7 (
    mv_rq l G mX5_readLength d 0 (mv_in [.ref u0, .int u1] 3) [] h4 (vB (fun E h1 => Q (.inr E) h1) (fun x69 h69 =>
    Q (.inl (some (.ref x69))) h69)))) (
    vnw h4 4 (.inr (12, [.int 0, .null, .null, .null])) fun a79 h79 =>
    mv_rq l G mX10_init d 0 (mv_in [.ref a79, .int 0] 2) [] h79 (vU (fun E h1 => Q (.inr E) h1) (fun h84 =>
    vgb h84 u0 7 0 fun x89 =>
    vgb h84 a79 12 3 fun x93 =>
    vob h84 x89 2 (
    mv_rq l G mX0_readPlain d 0 (mv_in [.ref x89, .ref x93, .int 39, .int 39] 5) [] h84 (vU (fun E h1 => Q (.inr E) h1) (fun h100 =>
    Q (.inl (some (.ref a79))) h100))))))))))))
theorem v_X5_readThing {l : Launch} {G : mv_G} {d : Nat} {u0 : Nat} {u1 : Int32} {h : mv_H} {Q : mv_O → mv_H → Prop} (hG : mv_ok G) (hq : w_X5_readThing l G d u0 u1 h Q) : mv_rq l G mX5_readThing (d + 1) 0 (mv_in [.ref u0, .int u1] 4) [] h Q := by
  unfold w_X5_readThing at hq
  show mv_rq l G mX5_readThing (d + 1) 0 [some (.ref u0), some (.int u1), none, none] [] h _
  refine q_aload_n dX5_readThing_0 rfl ?_
  obtain ⟨fs1, x1, f1, g1, hq⟩ := vgb_e hq
  refine q_getf (k := 0) (T := TX5) (C0 := RX5) (N := 2) (ci := 7) dX5_readThing_1 fl_RX5_12 rfl uin_RX5 (by decide) rfl f1 g1 ?_
  obtain ⟨⟨fs4, f4⟩, hq⟩ := vob_e hq
  refine q_cV (Y := mX0_look) (As := []) (st := []) (b := x1) (ci := 2) vc_X0_look dX5_readThing_4 ml_RX5_26 rfl f4 rfl (Nat.le_of_ble_eq_true rfl) rfl (Nat.le_of_ble_eq_true rfl) hq (fun v h1 hq1 => ?_) (fun E h1 hq1 => ?_)
  rotate_left
  ·
    rcases hq1 with hq1 | ⟨E1, e1, hq1⟩
    · obtain ⟨_, z, _⟩ := hq1; exact nomatch z
    · obtain rfl := Sum.inr.inj e1; exact q_xout (fun z hz => nomatch hz) hq1
  rcases hq1 with hq1 | ⟨E1, e1, hq1⟩
  rotate_left
  · exact nomatch e1
  obtain ⟨x4, hv, hq⟩ := hq1
  obtain rfl := Sum.inl.inj hv
  clear hv
  obtain ⟨h4, eh4⟩ : ∃ z, z = h1 := ⟨_, rfl⟩
  rw [← eh4] at hq ⊢
  clear eh4
  show mv_rq l G mX5_readThing (d + 1) 7 [some (.ref u0), some (.int u1), none, none] [.int x4] h4 _
  by_cases c7_0 : x4 = 36
  ·
    have hq := vif_t hq c7_0
    have t7 := md_ti (i := 36) (by decide) c7_0
    refine q_lookup (off := 41) (tgt := 48) dX5_readThing_7 (by decide) (by rw [t7]; rfl) (by decide) ?_
    refine q_aload_n dX5_readThing_48 rfl ?_
    obtain ⟨fs49, x49, f49, g49, hq⟩ := vgb_e hq
    refine q_getf (k := 0) (T := TX5) (C0 := RX5) (N := 2) (ci := 7) dX5_readThing_49 fl_RX5_12 rfl uin_RX5 (by decide) rfl f49 g49 ?_
    obtain ⟨fs52, x52, f52, g52, hq⟩ := vgi_e hq
    refine q_getf (k := 1) (T := TX0) (C0 := RX0) (N := 3) (ci := 2) dX5_readThing_52 fl_RX5_30 rfl uin_RX0 (by decide) rfl f52 g52 ?_
    refine q_istore_n dX5_readThing_55 (Nat.le_of_ble_eq_true rfl) rfl ?_
    show mv_rq l G mX5_readThing (d + 1) 56 [some (.ref u0), some (.int u1), some (.int x52), none] [] h4 _
    refine q_aload_n dX5_readThing_56 rfl ?_
    refine q_aload_n dX5_readThing_57 rfl ?_
    refine q_iload_n dX5_readThing_58 rfl ?_
    obtain ⟨⟨fs59, f59⟩, hq⟩ := vob_e hq
    refine q_cV (Y := mX5_readPath) (As := [.int u1]) (st := [.ref u0]) (b := u0) (ci := 7) vc_X5_readPath dX5_readThing_59 ml_RX5_38 rfl f59 rfl (Nat.le_of_ble_eq_true rfl) rfl (Nat.le_of_ble_eq_true rfl) hq (fun v h1 hq1 => ?_) (fun E h1 hq1 => ?_)
    rotate_left
    ·
      rcases hq1 with hq1 | ⟨E1, e1, hq1⟩
      · obtain ⟨_, z, _⟩ := hq1; exact nomatch z
      · obtain rfl := Sum.inr.inj e1; exact q_xout (fun z hz => nomatch hz) hq1
    rcases hq1 with hq1 | ⟨E1, e1, hq1⟩
    rotate_left
    · exact nomatch e1
    obtain ⟨x59, hv, hq⟩ := hq1
    obtain rfl := Sum.inl.inj hv
    clear hv
    obtain ⟨h59, eh59⟩ : ∃ z, z = h1 := ⟨_, rfl⟩
    rw [← eh59] at hq ⊢
    clear eh59
    show mv_rq l G mX5_readThing (d + 1) 62 [some (.ref u0), some (.int u1), some (.int x52), none] [.ref x59, .ref u0] h59 _
    refine q_iload_n dX5_readThing_62 rfl ?_
    obtain ⟨⟨fs63, f63⟩, hq⟩ := vob_e hq
    refine q_cV (Y := mX5_thingOfPath) (As := [.ref x59, .int x52]) (st := []) (b := u0) (ci := 7) vc_X5_thingOfPath dX5_readThing_63 ml_RX5_183 rfl f63 rfl (Nat.le_of_ble_eq_true rfl) rfl (Nat.le_of_ble_eq_true rfl) hq (fun v h1 hq1 => ?_) (fun E h1 hq1 => ?_)
    rotate_left
    ·
      rcases hq1 with hq1 | ⟨E1, e1, hq1⟩
      · obtain ⟨_, z, _⟩ := hq1; exact nomatch z
      · obtain rfl := Sum.inr.inj e1; exact q_xout (fun z hz => nomatch hz) hq1
    rcases hq1 with hq1 | ⟨E1, e1, hq1⟩
    rotate_left
    · exact nomatch e1
    obtain ⟨x63, hv, hq⟩ := hq1
    obtain rfl := Sum.inl.inj hv
    clear hv
    obtain ⟨h63, eh63⟩ : ∃ z, z = h1 := ⟨_, rfl⟩
    rw [← eh63] at hq ⊢
    clear eh63
    show mv_rq l G mX5_readThing (d + 1) 66 [some (.ref u0), some (.int u1), some (.int x52), none] [.ref x63] h63 _
    exact q_aret (rt := (.object "TreePaths$Thing")) dX5_readThing_66 rfl (Or.inl ⟨_, rfl⟩) (Or.inr ⟨_, rfl⟩) hq
  ·
    have hq := vif_f hq c7_0
    by_cases c7_1 : x4 = 64
    ·
      have hq := vif_t hq c7_1
      have t7 := md_ti (i := 64) (by decide) c7_1
      refine q_lookup (off := 41) (tgt := 48) dX5_readThing_7 (by decide) (by rw [t7]; rfl) (by decide) ?_
      refine q_aload_n dX5_readThing_48 rfl ?_
      obtain ⟨fs49, x49, f49, g49, hq⟩ := vgb_e hq
      refine q_getf (k := 0) (T := TX5) (C0 := RX5) (N := 2) (ci := 7) dX5_readThing_49 fl_RX5_12 rfl uin_RX5 (by decide) rfl f49 g49 ?_
      obtain ⟨fs52, x52, f52, g52, hq⟩ := vgi_e hq
      refine q_getf (k := 1) (T := TX0) (C0 := RX0) (N := 3) (ci := 2) dX5_readThing_52 fl_RX5_30 rfl uin_RX0 (by decide) rfl f52 g52 ?_
      refine q_istore_n dX5_readThing_55 (Nat.le_of_ble_eq_true rfl) rfl ?_
      show mv_rq l G mX5_readThing (d + 1) 56 [some (.ref u0), some (.int u1), some (.int x52), none] [] h4 _
      refine q_aload_n dX5_readThing_56 rfl ?_
      refine q_aload_n dX5_readThing_57 rfl ?_
      refine q_iload_n dX5_readThing_58 rfl ?_
      obtain ⟨⟨fs59, f59⟩, hq⟩ := vob_e hq
      refine q_cV (Y := mX5_readPath) (As := [.int u1]) (st := [.ref u0]) (b := u0) (ci := 7) vc_X5_readPath dX5_readThing_59 ml_RX5_38 rfl f59 rfl (Nat.le_of_ble_eq_true rfl) rfl (Nat.le_of_ble_eq_true rfl) hq (fun v h1 hq1 => ?_) (fun E h1 hq1 => ?_)
      rotate_left
      ·
        rcases hq1 with hq1 | ⟨E1, e1, hq1⟩
        · obtain ⟨_, z, _⟩ := hq1; exact nomatch z
        · obtain rfl := Sum.inr.inj e1; exact q_xout (fun z hz => nomatch hz) hq1
      rcases hq1 with hq1 | ⟨E1, e1, hq1⟩
      rotate_left
      · exact nomatch e1
      obtain ⟨x59, hv, hq⟩ := hq1
      obtain rfl := Sum.inl.inj hv
      clear hv
      obtain ⟨h59, eh59⟩ : ∃ z, z = h1 := ⟨_, rfl⟩
      rw [← eh59] at hq ⊢
      clear eh59
      show mv_rq l G mX5_readThing (d + 1) 62 [some (.ref u0), some (.int u1), some (.int x52), none] [.ref x59, .ref u0] h59 _
      refine q_iload_n dX5_readThing_62 rfl ?_
      obtain ⟨⟨fs63, f63⟩, hq⟩ := vob_e hq
      refine q_cV (Y := mX5_thingOfPath) (As := [.ref x59, .int x52]) (st := []) (b := u0) (ci := 7) vc_X5_thingOfPath dX5_readThing_63 ml_RX5_183 rfl f63 rfl (Nat.le_of_ble_eq_true rfl) rfl (Nat.le_of_ble_eq_true rfl) hq (fun v h1 hq1 => ?_) (fun E h1 hq1 => ?_)
      rotate_left
      ·
        rcases hq1 with hq1 | ⟨E1, e1, hq1⟩
        · obtain ⟨_, z, _⟩ := hq1; exact nomatch z
        · obtain rfl := Sum.inr.inj e1; exact q_xout (fun z hz => nomatch hz) hq1
      rcases hq1 with hq1 | ⟨E1, e1, hq1⟩
      rotate_left
      · exact nomatch e1
      obtain ⟨x63, hv, hq⟩ := hq1
      obtain rfl := Sum.inl.inj hv
      clear hv
      obtain ⟨h63, eh63⟩ : ∃ z, z = h1 := ⟨_, rfl⟩
      rw [← eh63] at hq ⊢
      clear eh63
      show mv_rq l G mX5_readThing (d + 1) 66 [some (.ref u0), some (.int u1), some (.int x52), none] [.ref x63] h63 _
      exact q_aret (rt := (.object "TreePaths$Thing")) dX5_readThing_66 rfl (Or.inl ⟨_, rfl⟩) (Or.inr ⟨_, rfl⟩) hq
    ·
      have hq := vif_f hq c7_1
      by_cases c7_2 : x4 = 99
      ·
        have hq := vif_t hq c7_2
        have t7 := md_ti (i := 99) (by decide) c7_2
        refine q_lookup (off := 66) (tgt := 73) dX5_readThing_7 (by decide) (by rw [t7]; rfl) (by decide) ?_
        refine q_aload_n dX5_readThing_73 rfl ?_
        refine q_iload_n dX5_readThing_74 rfl ?_
        obtain ⟨⟨fs75, f75⟩, hq⟩ := vob_e hq
        refine q_cV (Y := mX5_readCount) (As := [.int u1]) (st := []) (b := u0) (ci := 7) vc_X5_readCount dX5_readThing_75 ml_RX5_207 rfl f75 rfl (Nat.le_of_ble_eq_true rfl) rfl (Nat.le_of_ble_eq_true rfl) hq (fun v h1 hq1 => ?_) (fun E h1 hq1 => ?_)
        rotate_left
        ·
          rcases hq1 with hq1 | ⟨E1, e1, hq1⟩
          · obtain ⟨_, z, _⟩ := hq1; exact nomatch z
          · obtain rfl := Sum.inr.inj e1; exact q_xout (fun z hz => nomatch hz) hq1
        rcases hq1 with hq1 | ⟨E1, e1, hq1⟩
        rotate_left
        · exact nomatch e1
        obtain ⟨x75, hv, hq⟩ := hq1
        obtain rfl := Sum.inl.inj hv
        clear hv
        obtain ⟨h75, eh75⟩ : ∃ z, z = h1 := ⟨_, rfl⟩
        rw [← eh75] at hq ⊢
        clear eh75
        show mv_rq l G mX5_readThing (d + 1) 78 [some (.ref u0), some (.int u1), none, none] [.ref x75] h75 _
        exact q_aret (rt := (.object "TreePaths$Thing")) dX5_readThing_78 rfl (Or.inl ⟨_, rfl⟩) (Or.inr ⟨_, rfl⟩) hq
      ·
        have hq := vif_f hq c7_2
        by_cases c7_3 : x4 = 108
        ·
          have hq := vif_t hq c7_3
          have t7 := md_ti (i := 108) (by decide) c7_3
          refine q_lookup (off := 60) (tgt := 67) dX5_readThing_7 (by decide) (by rw [t7]; rfl) (by decide) ?_
          refine q_aload_n dX5_readThing_67 rfl ?_
          refine q_iload_n dX5_readThing_68 rfl ?_
          obtain ⟨⟨fs69, f69⟩, hq⟩ := vob_e hq
          refine q_cV (Y := mX5_readLength) (As := [.int u1]) (st := []) (b := u0) (ci := 7) vc_X5_readLength dX5_readThing_69 ml_RX5_204 rfl f69 rfl (Nat.le_of_ble_eq_true rfl) rfl (Nat.le_of_ble_eq_true rfl) hq (fun v h1 hq1 => ?_) (fun E h1 hq1 => ?_)
          rotate_left
          ·
            rcases hq1 with hq1 | ⟨E1, e1, hq1⟩
            · obtain ⟨_, z, _⟩ := hq1; exact nomatch z
            · obtain rfl := Sum.inr.inj e1; exact q_xout (fun z hz => nomatch hz) hq1
          rcases hq1 with hq1 | ⟨E1, e1, hq1⟩
          rotate_left
          · exact nomatch e1
          obtain ⟨x69, hv, hq⟩ := hq1
          obtain rfl := Sum.inl.inj hv
          clear hv
          obtain ⟨h69, eh69⟩ : ∃ z, z = h1 := ⟨_, rfl⟩
          rw [← eh69] at hq ⊢
          clear eh69
          show mv_rq l G mX5_readThing (d + 1) 72 [some (.ref u0), some (.int u1), none, none] [.ref x69] h69 _
          exact q_aret (rt := (.object "TreePaths$Thing")) dX5_readThing_72 rfl (Or.inl ⟨_, rfl⟩) (Or.inr ⟨_, rfl⟩) hq
        ·
          have hq := vif_f hq c7_3
          refine q_lookup (off := 72) (tgt := 79) dX5_readThing_7 (by decide) (by have e0 := md_tn (i := 36) (by decide) c7_0; have e1 := md_tn (i := 64) (by decide) c7_1; have e2 := md_tn (i := 99) (by decide) c7_2; have e3 := md_tn (i := 108) (by decide) c7_3; simp [Op.lookupswitch.offset, e0.symm, e1.symm, e2.symm, e3.symm]) (by decide) ?_
          obtain ⟨a79, h79, ea79, eh79, hq⟩ := vnw_e hq
          refine q_new (fs := [.int 0, .null, .null, .null]) (ci := 12) (T := TX10) (N := 4) tyX10 tyX10_ok dX5_readThing_79 cl_RX5_210 inst_RX10 init_RX10 uin_RX10 rfl (by decide) ?_
          rw [← eh79, ← ea79]
          show mv_rq l G mX5_readThing (d + 1) 82 [some (.ref u0), some (.int u1), none, none] [.ref a79] h79 _
          refine q_dup dX5_readThing_82 rfl ?_
          refine q_iconst (v := 0) dX5_readThing_83 (by decide) ?_
          refine q_cI (Y := mX10_init) (As := [.int 0]) (st := [.ref a79]) (b := a79) ic_X10_init dX5_readThing_84 ml_RX5_212 rfl (Nat.le_of_ble_eq_true rfl) rfl (Nat.le_of_ble_eq_true rfl) hq (fun v h1 hq1 => ?_) (fun E h1 hq1 => ?_)
          rotate_left
          ·
            rcases hq1 with hq1 | ⟨E1, e1, hq1⟩
            · exact nomatch hq1.1
            · obtain rfl := Sum.inr.inj e1; exact q_xout (fun z hz => nomatch hz) hq1
          rcases hq1 with hq1 | ⟨E1, e1, hq1⟩
          rotate_left
          · exact nomatch e1
          obtain ⟨hv, hq⟩ := hq1
          obtain rfl := Sum.inl.inj hv
          clear hv
          obtain ⟨h84, eh84⟩ : ∃ z, z = h1 := ⟨_, rfl⟩
          rw [← eh84] at hq ⊢
          clear eh84
          show mv_rq l G mX5_readThing (d + 1) 87 [some (.ref u0), some (.int u1), none, none] [.ref a79] h84 _
          refine q_astore_n dX5_readThing_87 (Nat.le_of_ble_eq_true rfl) rfl ?_
          show mv_rq l G mX5_readThing (d + 1) 88 [some (.ref u0), some (.int u1), none, some (.ref a79)] [] h84 _
          refine q_aload_n dX5_readThing_88 rfl ?_
          obtain ⟨fs89, x89, f89, g89, hq⟩ := vgb_e hq
          refine q_getf (k := 0) (T := TX5) (C0 := RX5) (N := 2) (ci := 7) dX5_readThing_89 fl_RX5_12 rfl uin_RX5 (by decide) rfl f89 g89 ?_
          refine q_aload_n dX5_readThing_92 rfl ?_
          obtain ⟨fs93, x93, f93, g93, hq⟩ := vgb_e hq
          refine q_getf (k := 3) (T := TX10) (C0 := RX10) (N := 4) (ci := 12) dX5_readThing_93 fl_RX5_213 rfl uin_RX10 (by decide) rfl f93 g93 ?_
          refine q_bipush (v := 39) dX5_readThing_96 (by decide) ?_
          refine q_bipush (v := 39) dX5_readThing_98 (by decide) ?_
          obtain ⟨⟨fs100, f100⟩, hq⟩ := vob_e hq
          refine q_cV (Y := mX0_readPlain) (As := [.ref x93, .int 39, .int 39]) (st := []) (b := x89) (ci := 2) vc_X0_readPlain dX5_readThing_100 ml_RX5_217 rfl f100 rfl (Nat.le_of_ble_eq_true rfl) rfl (Nat.le_of_ble_eq_true rfl) hq (fun v h1 hq1 => ?_) (fun E h1 hq1 => ?_)
          rotate_left
          ·
            rcases hq1 with hq1 | ⟨E1, e1, hq1⟩
            · exact nomatch hq1.1
            · obtain rfl := Sum.inr.inj e1; exact q_xout (fun z hz => nomatch hz) hq1
          rcases hq1 with hq1 | ⟨E1, e1, hq1⟩
          rotate_left
          · exact nomatch e1
          obtain ⟨hv, hq⟩ := hq1
          obtain rfl := Sum.inl.inj hv
          clear hv
          obtain ⟨h100, eh100⟩ : ∃ z, z = h1 := ⟨_, rfl⟩
          rw [← eh100] at hq ⊢
          clear eh100
          show mv_rq l G mX5_readThing (d + 1) 103 [some (.ref u0), some (.int u1), none, some (.ref a79)] [] h100 _
          refine q_aload_n dX5_readThing_103 rfl ?_
          exact q_aret (rt := (.object "TreePaths$Thing")) dX5_readThing_104 rfl (Or.inl ⟨_, rfl⟩) (Or.inr ⟨_, rfl⟩) hq
def w_X5_thingOfPath (l : Launch) (G : mv_G) (d : Nat) (u0 : Nat) (u1 : Nat) (u2 : Int32) (h : mv_H) (Q : mv_O → mv_H → Prop) : Prop :=
  vgi h u1 6 4 fun x1 =>
  vif (x1 = 0) (
    vgb h u0 7 0 fun x8 =>
    vob h x8 2 (
    mv_rq l G mX0_refuse d 0 (mv_in [.ref x8, .int u2] 2) [] h (vU (fun E h1 => Q (.inr E) h1) (fun h12 =>
    mv_rq l G mX5_thingOfPath (d + 1) 15 [none, some (.ref u1), none, none] [] h12 Q)))) (
    mv_rq l G mX5_thingOfPath (d + 1) 15 [none, some (.ref u1), none, none] [] h Q)
theorem v_X5_thingOfPath {l : Launch} {G : mv_G} {d : Nat} {u0 : Nat} {u1 : Nat} {u2 : Int32} {h : mv_H} {Q : mv_O → mv_H → Prop} (hG : mv_ok G) (hq : w_X5_thingOfPath l G d u0 u1 u2 h Q) : mv_rq l G mX5_thingOfPath (d + 1) 0 (mv_in [.ref u0, .ref u1, .int u2] 4) [] h Q := by
  unfold w_X5_thingOfPath at hq
  show mv_rq l G mX5_thingOfPath (d + 1) 0 [some (.ref u0), some (.ref u1), some (.int u2), none] [] h _
  refine q_aload_n dX5_thingOfPath_0 rfl ?_
  obtain ⟨fs1, x1, f1, g1, hq⟩ := vgi_e hq
  refine q_getf (k := 4) (T := TX4) (C0 := RX4) (N := 5) (ci := 6) dX5_thingOfPath_1 fl_RX5_221 rfl uin_RX4 (by decide) rfl f1 g1 ?_
  refine q_if_ne (tgt := 15) dX5_thingOfPath_4 (by decide) (fun c4 => ?_) (fun c4 => ?_)
  ·
    have hq := vif_f hq c4
    exact mv_weak (A := [none, some (.ref u1), none, none]) (by repeat' constructor) hq
  ·
    have hq := vif_t hq c4
    refine q_aload_n dX5_thingOfPath_7 rfl ?_
    obtain ⟨fs8, x8, f8, g8, hq⟩ := vgb_e hq
    refine q_getf (k := 0) (T := TX5) (C0 := RX5) (N := 2) (ci := 7) dX5_thingOfPath_8 fl_RX5_12 rfl uin_RX5 (by decide) rfl f8 g8 ?_
    refine q_iload_n dX5_thingOfPath_11 rfl ?_
    obtain ⟨⟨fs12, f12⟩, hq⟩ := vob_e hq
    refine q_cV (Y := mX0_refuse) (As := [.int u2]) (st := []) (b := x8) (ci := 2) vc_X0_refuse dX5_thingOfPath_12 ml_RX5_34 rfl f12 rfl (Nat.le_of_ble_eq_true rfl) rfl (Nat.le_of_ble_eq_true rfl) hq (fun v h1 hq1 => ?_) (fun E h1 hq1 => ?_)
    rotate_left
    ·
      rcases hq1 with hq1 | ⟨E1, e1, hq1⟩
      · exact nomatch hq1.1
      · obtain rfl := Sum.inr.inj e1; exact q_xout (fun z hz => nomatch hz) hq1
    rcases hq1 with hq1 | ⟨E1, e1, hq1⟩
    rotate_left
    · exact nomatch e1
    obtain ⟨hv, hq⟩ := hq1
    obtain rfl := Sum.inl.inj hv
    clear hv
    obtain ⟨h12, eh12⟩ : ∃ z, z = h1 := ⟨_, rfl⟩
    rw [← eh12] at hq ⊢
    clear eh12
    show mv_rq l G mX5_thingOfPath (d + 1) 15 [some (.ref u0), some (.ref u1), some (.int u2), none] [] h12 _
    exact mv_weak (A := [none, some (.ref u1), none, none]) (by repeat' constructor) hq
def w_X5_thingOfPath_15 (l : Launch) (G : mv_G) (d : Nat) (u1 : Nat) (h : mv_H) (Q : mv_O → mv_H → Prop) : Prop :=
  vnw h 4 (.inr (12, [.int 0, .null, .null, .null])) fun a15 h15 =>
  mv_rq l G mX10_init d 0 (mv_in [.ref a15, .int 1] 2) [] h15 (vU (fun E h1 => Q (.inr E) h1) (fun h20 =>
  vpu G h20 a15 12 1 (.ref u1) fun h26 =>
  Q (.inl (some (.ref a15))) h26))
theorem v_X5_thingOfPath_15 {l : Launch} {G : mv_G} {d : Nat} {u1 : Nat} {h : mv_H} {Q : mv_O → mv_H → Prop} (hG : mv_ok G) (hq : w_X5_thingOfPath_15 l G d u1 h Q) : mv_rq l G mX5_thingOfPath (d + 1) 15 [none, some (.ref u1), none, none] [] h Q := by
  unfold w_X5_thingOfPath_15 at hq
  obtain ⟨a15, h15, ea15, eh15, hq⟩ := vnw_e hq
  refine q_new (fs := [.int 0, .null, .null, .null]) (ci := 12) (T := TX10) (N := 4) tyX10 tyX10_ok dX5_thingOfPath_15 cl_RX5_210 inst_RX10 init_RX10 uin_RX10 rfl (by decide) ?_
  rw [← eh15, ← ea15]
  show mv_rq l G mX5_thingOfPath (d + 1) 18 [none, some (.ref u1), none, none] [.ref a15] h15 _
  refine q_dup dX5_thingOfPath_18 rfl ?_
  refine q_iconst (v := 1) dX5_thingOfPath_19 (by decide) ?_
  refine q_cI (Y := mX10_init) (As := [.int 1]) (st := [.ref a15]) (b := a15) ic_X10_init dX5_thingOfPath_20 ml_RX5_212 rfl (Nat.le_of_ble_eq_true rfl) rfl (Nat.le_of_ble_eq_true rfl) hq (fun v h1 hq1 => ?_) (fun E h1 hq1 => ?_)
  rotate_left
  ·
    rcases hq1 with hq1 | ⟨E1, e1, hq1⟩
    · exact nomatch hq1.1
    · obtain rfl := Sum.inr.inj e1; exact q_xout (fun z hz => nomatch hz) hq1
  rcases hq1 with hq1 | ⟨E1, e1, hq1⟩
  rotate_left
  · exact nomatch e1
  obtain ⟨hv, hq⟩ := hq1
  obtain rfl := Sum.inl.inj hv
  clear hv
  obtain ⟨h20, eh20⟩ : ∃ z, z = h1 := ⟨_, rfl⟩
  rw [← eh20] at hq ⊢
  clear eh20
  show mv_rq l G mX5_thingOfPath (d + 1) 23 [none, some (.ref u1), none, none] [.ref a15] h20 _
  refine q_astore_n dX5_thingOfPath_23 (Nat.le_of_ble_eq_true rfl) rfl ?_
  show mv_rq l G mX5_thingOfPath (d + 1) 24 [none, some (.ref u1), none, some (.ref a15)] [] h20 _
  refine q_aload_n dX5_thingOfPath_24 rfl ?_
  refine q_aload_n dX5_thingOfPath_25 rfl ?_
  obtain ⟨fs26, h26, f26, b26, l26, e26, hq⟩ := vpu_e hq
  refine q_putf (k := 1) (T := TX10) (C0 := RX10) (N := 4) (ci := 12) (ty := (.object "TreePaths$Path")) tyX10 tyX10_ok nmX10 dX5_thingOfPath_26 fl_RX5_224 rfl uin_RX10 (by decide) rfl rfl (by decide +kernel) rfl rfl b26 f26 l26 ?_
  rw [← e26]
  show mv_rq l G mX5_thingOfPath (d + 1) 29 [none, some (.ref u1), none, some (.ref a15)] [] h26 _
  refine q_aload_n dX5_thingOfPath_29 rfl ?_
  exact q_aret (rt := (.object "TreePaths$Thing")) dX5_thingOfPath_30 rfl (Or.inl ⟨_, rfl⟩) (Or.inr ⟨_, rfl⟩) hq
def w_X5_readLength (l : Launch) (G : mv_G) (d : Nat) (u0 : Nat) (u1 : Int32) (h : mv_H) (Q : mv_O → mv_H → Prop) : Prop :=
  vgb h u0 7 0 fun x1 =>
  vst G RX5 225 "length" fun a4 =>
  vob h x1 2 (
  mv_rq l G mX0_expectWord d 0 (mv_in [.ref x1, .ref a4] 3) [] h (vU (fun E h1 => Q (.inr E) h1) (fun h6 =>
  vob h6 u0 7 (
  mv_rq l G mX5_open d 0 (mv_in [.ref u0, .int 40, .int u1] 3) [] h6 (vU (fun E h1 => Q (.inr E) h1) (fun h13 =>
  vnw h13 4 (.inr (12, [.int 0, .null, .null, .null])) fun a16 h16 =>
  mv_rq l G mX10_init d 0 (mv_in [.ref a16, .int 2] 2) [] h16 (vU (fun E h1 => Q (.inr E) h1) (fun h21 =>
  vob h21 u0 7 (
  mv_rq l G mX5_readThing d 0 (mv_in [.ref u0, .int (u1 + 1)] 4) [] h21 (vB (fun E h1 => Q (.inr E) h1) (fun x30 h30 =>
  vpu G h30 a16 12 2 (.ref x30) fun h33 =>
  vgb h33 u0 7 0 fun x37 =>
  vob h33 x37 2 (
  mv_rq l G mX0_expect d 0 (mv_in [.ref x37, .int 41] 2) [] h33 (vU (fun E h1 => Q (.inr E) h1) (fun h42 =>
  Q (.inl (some (.ref a16))) h42))))))))))))))
theorem v_X5_readLength {l : Launch} {G : mv_G} {d : Nat} {u0 : Nat} {u1 : Int32} {h : mv_H} {Q : mv_O → mv_H → Prop} (hG : mv_ok G) (hq : w_X5_readLength l G d u0 u1 h Q) : mv_rq l G mX5_readLength (d + 1) 0 (mv_in [.ref u0, .int u1] 3) [] h Q := by
  unfold w_X5_readLength at hq
  show mv_rq l G mX5_readLength (d + 1) 0 [some (.ref u0), some (.int u1), none] [] h _
  refine q_aload_n dX5_readLength_0 rfl ?_
  obtain ⟨fs1, x1, f1, g1, hq⟩ := vgb_e hq
  refine q_getf (k := 0) (T := TX5) (C0 := RX5) (N := 2) (ci := 7) dX5_readLength_1 fl_RX5_12 rfl uin_RX5 (by decide) rfl f1 g1 ?_
  obtain ⟨a4, ea4, hq⟩ := vst_e hq
  refine q_ldcS dX5_readLength_4 ea4 ?_
  obtain ⟨⟨fs6, f6⟩, hq⟩ := vob_e hq
  refine q_cV (Y := mX0_expectWord) (As := [.ref a4]) (st := []) (b := x1) (ci := 2) vc_X0_expectWord dX5_readLength_6 ml_RX5_227 rfl f6 rfl (Nat.le_of_ble_eq_true rfl) rfl (Nat.le_of_ble_eq_true rfl) hq (fun v h1 hq1 => ?_) (fun E h1 hq1 => ?_)
  rotate_left
  ·
    rcases hq1 with hq1 | ⟨E1, e1, hq1⟩
    · exact nomatch hq1.1
    · obtain rfl := Sum.inr.inj e1; exact q_xout (fun z hz => nomatch hz) hq1
  rcases hq1 with hq1 | ⟨E1, e1, hq1⟩
  rotate_left
  · exact nomatch e1
  obtain ⟨hv, hq⟩ := hq1
  obtain rfl := Sum.inl.inj hv
  clear hv
  obtain ⟨h6, eh6⟩ : ∃ z, z = h1 := ⟨_, rfl⟩
  rw [← eh6] at hq ⊢
  clear eh6
  show mv_rq l G mX5_readLength (d + 1) 9 [some (.ref u0), some (.int u1), none] [] h6 _
  refine q_aload_n dX5_readLength_9 rfl ?_
  refine q_bipush (v := 40) dX5_readLength_10 (by decide) ?_
  refine q_iload_n dX5_readLength_12 rfl ?_
  obtain ⟨⟨fs13, f13⟩, hq⟩ := vob_e hq
  refine q_cV (Y := mX5_open) (As := [.int 40, .int u1]) (st := []) (b := u0) (ci := 7) vc_X5_open dX5_readLength_13 ml_RX5_112 rfl f13 rfl (Nat.le_of_ble_eq_true rfl) rfl (Nat.le_of_ble_eq_true rfl) hq (fun v h1 hq1 => ?_) (fun E h1 hq1 => ?_)
  rotate_left
  ·
    rcases hq1 with hq1 | ⟨E1, e1, hq1⟩
    · exact nomatch hq1.1
    · obtain rfl := Sum.inr.inj e1; exact q_xout (fun z hz => nomatch hz) hq1
  rcases hq1 with hq1 | ⟨E1, e1, hq1⟩
  rotate_left
  · exact nomatch e1
  obtain ⟨hv, hq⟩ := hq1
  obtain rfl := Sum.inl.inj hv
  clear hv
  obtain ⟨h13, eh13⟩ : ∃ z, z = h1 := ⟨_, rfl⟩
  rw [← eh13] at hq ⊢
  clear eh13
  show mv_rq l G mX5_readLength (d + 1) 16 [some (.ref u0), some (.int u1), none] [] h13 _
  obtain ⟨a16, h16, ea16, eh16, hq⟩ := vnw_e hq
  refine q_new (fs := [.int 0, .null, .null, .null]) (ci := 12) (T := TX10) (N := 4) tyX10 tyX10_ok dX5_readLength_16 cl_RX5_210 inst_RX10 init_RX10 uin_RX10 rfl (by decide) ?_
  rw [← eh16, ← ea16]
  show mv_rq l G mX5_readLength (d + 1) 19 [some (.ref u0), some (.int u1), none] [.ref a16] h16 _
  refine q_dup dX5_readLength_19 rfl ?_
  refine q_iconst (v := 2) dX5_readLength_20 (by decide) ?_
  refine q_cI (Y := mX10_init) (As := [.int 2]) (st := [.ref a16]) (b := a16) ic_X10_init dX5_readLength_21 ml_RX5_212 rfl (Nat.le_of_ble_eq_true rfl) rfl (Nat.le_of_ble_eq_true rfl) hq (fun v h1 hq1 => ?_) (fun E h1 hq1 => ?_)
  rotate_left
  ·
    rcases hq1 with hq1 | ⟨E1, e1, hq1⟩
    · exact nomatch hq1.1
    · obtain rfl := Sum.inr.inj e1; exact q_xout (fun z hz => nomatch hz) hq1
  rcases hq1 with hq1 | ⟨E1, e1, hq1⟩
  rotate_left
  · exact nomatch e1
  obtain ⟨hv, hq⟩ := hq1
  obtain rfl := Sum.inl.inj hv
  clear hv
  obtain ⟨h21, eh21⟩ : ∃ z, z = h1 := ⟨_, rfl⟩
  rw [← eh21] at hq ⊢
  clear eh21
  show mv_rq l G mX5_readLength (d + 1) 24 [some (.ref u0), some (.int u1), none] [.ref a16] h21 _
  refine q_astore_n dX5_readLength_24 (Nat.le_of_ble_eq_true rfl) rfl ?_
  show mv_rq l G mX5_readLength (d + 1) 25 [some (.ref u0), some (.int u1), some (.ref a16)] [] h21 _
  refine q_aload_n dX5_readLength_25 rfl ?_
  refine q_aload_n dX5_readLength_26 rfl ?_
  refine q_iload_n dX5_readLength_27 rfl ?_
  refine q_iconst (v := 1) dX5_readLength_28 (by decide) ?_
  refine q_iadd dX5_readLength_29 ?_
  obtain ⟨⟨fs30, f30⟩, hq⟩ := vob_e hq
  refine q_cV (Y := mX5_readThing) (As := [.int (u1 + 1)]) (st := [.ref a16]) (b := u0) (ci := 7) vc_X5_readThing dX5_readLength_30 ml_RX5_172 rfl f30 rfl (Nat.le_of_ble_eq_true rfl) rfl (Nat.le_of_ble_eq_true rfl) hq (fun v h1 hq1 => ?_) (fun E h1 hq1 => ?_)
  rotate_left
  ·
    rcases hq1 with hq1 | ⟨E1, e1, hq1⟩
    · obtain ⟨_, z, _⟩ := hq1; exact nomatch z
    · obtain rfl := Sum.inr.inj e1; exact q_xout (fun z hz => nomatch hz) hq1
  rcases hq1 with hq1 | ⟨E1, e1, hq1⟩
  rotate_left
  · exact nomatch e1
  obtain ⟨x30, hv, hq⟩ := hq1
  obtain rfl := Sum.inl.inj hv
  clear hv
  obtain ⟨h30, eh30⟩ : ∃ z, z = h1 := ⟨_, rfl⟩
  rw [← eh30] at hq ⊢
  clear eh30
  show mv_rq l G mX5_readLength (d + 1) 33 [some (.ref u0), some (.int u1), some (.ref a16)] [.ref x30, .ref a16] h30 _
  obtain ⟨fs33, h33, f33, b33, l33, e33, hq⟩ := vpu_e hq
  refine q_putf (k := 2) (T := TX10) (C0 := RX10) (N := 4) (ci := 12) (ty := (.object "TreePaths$Thing")) tyX10 tyX10_ok nmX10 dX5_readLength_33 fl_RX5_230 rfl uin_RX10 (by decide) rfl rfl (by decide +kernel) rfl rfl b33 f33 l33 ?_
  rw [← e33]
  show mv_rq l G mX5_readLength (d + 1) 36 [some (.ref u0), some (.int u1), some (.ref a16)] [] h33 _
  refine q_aload_n dX5_readLength_36 rfl ?_
  obtain ⟨fs37, x37, f37, g37, hq⟩ := vgb_e hq
  refine q_getf (k := 0) (T := TX5) (C0 := RX5) (N := 2) (ci := 7) dX5_readLength_37 fl_RX5_12 rfl uin_RX5 (by decide) rfl f37 g37 ?_
  refine q_bipush (v := 41) dX5_readLength_40 (by decide) ?_
  obtain ⟨⟨fs42, f42⟩, hq⟩ := vob_e hq
  refine q_cV (Y := mX0_expect) (As := [.int 41]) (st := []) (b := x37) (ci := 2) vc_X0_expect dX5_readLength_42 ml_RX5_100 rfl f42 rfl (Nat.le_of_ble_eq_true rfl) rfl (Nat.le_of_ble_eq_true rfl) hq (fun v h1 hq1 => ?_) (fun E h1 hq1 => ?_)
  rotate_left
  ·
    rcases hq1 with hq1 | ⟨E1, e1, hq1⟩
    · exact nomatch hq1.1
    · obtain rfl := Sum.inr.inj e1; exact q_xout (fun z hz => nomatch hz) hq1
  rcases hq1 with hq1 | ⟨E1, e1, hq1⟩
  rotate_left
  · exact nomatch e1
  obtain ⟨hv, hq⟩ := hq1
  obtain rfl := Sum.inl.inj hv
  clear hv
  obtain ⟨h42, eh42⟩ : ∃ z, z = h1 := ⟨_, rfl⟩
  rw [← eh42] at hq ⊢
  clear eh42
  show mv_rq l G mX5_readLength (d + 1) 45 [some (.ref u0), some (.int u1), some (.ref a16)] [] h42 _
  refine q_aload_n dX5_readLength_45 rfl ?_
  exact q_aret (rt := (.object "TreePaths$Thing")) dX5_readLength_46 rfl (Or.inl ⟨_, rfl⟩) (Or.inr ⟨_, rfl⟩) hq
def w_X5_readCount (l : Launch) (G : mv_G) (d : Nat) (u0 : Nat) (u1 : Int32) (h : mv_H) (Q : mv_O → mv_H → Prop) : Prop :=
  vgb h u0 7 0 fun x1 =>
  vst G RX5 233 "count" fun a4 =>
  vob h x1 2 (
  mv_rq l G mX0_expectWord d 0 (mv_in [.ref x1, .ref a4] 3) [] h (vU (fun E h1 => Q (.inr E) h1) (fun h6 =>
  vob h6 u0 7 (
  mv_rq l G mX5_open d 0 (mv_in [.ref u0, .int 40, .int u1] 3) [] h6 (vU (fun E h1 => Q (.inr E) h1) (fun h13 =>
  vob h13 u0 7 (
  mv_rq l G mX5_seesPath d 0 (mv_in [.ref u0] 1) [] h13 (vI (fun E h1 => Q (.inr E) h1) (fun x17 h17 =>
  vif (x17 = 0) (
    vgb h17 u0 7 0 fun x24 =>
    vgb h17 u0 7 0 fun x28 =>
    vgi h17 x28 2 1 fun x31 =>
    vob h17 x24 2 (
    mv_rq l G mX0_refuse d 0 (mv_in [.ref x24, .int x31] 2) [] h17 (vU (fun E h1 => Q (.inr E) h1) (fun h34 =>
    mv_rq l G mX5_readCount (d + 1) 37 [some (.ref u0), some (.int u1), none] [] h34 Q)))) (
    mv_rq l G mX5_readCount (d + 1) 37 [some (.ref u0), some (.int u1), none] [] h17 Q))))))))))
theorem v_X5_readCount {l : Launch} {G : mv_G} {d : Nat} {u0 : Nat} {u1 : Int32} {h : mv_H} {Q : mv_O → mv_H → Prop} (hG : mv_ok G) (hq : w_X5_readCount l G d u0 u1 h Q) : mv_rq l G mX5_readCount (d + 1) 0 (mv_in [.ref u0, .int u1] 3) [] h Q := by
  unfold w_X5_readCount at hq
  show mv_rq l G mX5_readCount (d + 1) 0 [some (.ref u0), some (.int u1), none] [] h _
  refine q_aload_n dX5_readCount_0 rfl ?_
  obtain ⟨fs1, x1, f1, g1, hq⟩ := vgb_e hq
  refine q_getf (k := 0) (T := TX5) (C0 := RX5) (N := 2) (ci := 7) dX5_readCount_1 fl_RX5_12 rfl uin_RX5 (by decide) rfl f1 g1 ?_
  obtain ⟨a4, ea4, hq⟩ := vst_e hq
  refine q_ldcS dX5_readCount_4 ea4 ?_
  obtain ⟨⟨fs6, f6⟩, hq⟩ := vob_e hq
  refine q_cV (Y := mX0_expectWord) (As := [.ref a4]) (st := []) (b := x1) (ci := 2) vc_X0_expectWord dX5_readCount_6 ml_RX5_227 rfl f6 rfl (Nat.le_of_ble_eq_true rfl) rfl (Nat.le_of_ble_eq_true rfl) hq (fun v h1 hq1 => ?_) (fun E h1 hq1 => ?_)
  rotate_left
  ·
    rcases hq1 with hq1 | ⟨E1, e1, hq1⟩
    · exact nomatch hq1.1
    · obtain rfl := Sum.inr.inj e1; exact q_xout (fun z hz => nomatch hz) hq1
  rcases hq1 with hq1 | ⟨E1, e1, hq1⟩
  rotate_left
  · exact nomatch e1
  obtain ⟨hv, hq⟩ := hq1
  obtain rfl := Sum.inl.inj hv
  clear hv
  obtain ⟨h6, eh6⟩ : ∃ z, z = h1 := ⟨_, rfl⟩
  rw [← eh6] at hq ⊢
  clear eh6
  show mv_rq l G mX5_readCount (d + 1) 9 [some (.ref u0), some (.int u1), none] [] h6 _
  refine q_aload_n dX5_readCount_9 rfl ?_
  refine q_bipush (v := 40) dX5_readCount_10 (by decide) ?_
  refine q_iload_n dX5_readCount_12 rfl ?_
  obtain ⟨⟨fs13, f13⟩, hq⟩ := vob_e hq
  refine q_cV (Y := mX5_open) (As := [.int 40, .int u1]) (st := []) (b := u0) (ci := 7) vc_X5_open dX5_readCount_13 ml_RX5_112 rfl f13 rfl (Nat.le_of_ble_eq_true rfl) rfl (Nat.le_of_ble_eq_true rfl) hq (fun v h1 hq1 => ?_) (fun E h1 hq1 => ?_)
  rotate_left
  ·
    rcases hq1 with hq1 | ⟨E1, e1, hq1⟩
    · exact nomatch hq1.1
    · obtain rfl := Sum.inr.inj e1; exact q_xout (fun z hz => nomatch hz) hq1
  rcases hq1 with hq1 | ⟨E1, e1, hq1⟩
  rotate_left
  · exact nomatch e1
  obtain ⟨hv, hq⟩ := hq1
  obtain rfl := Sum.inl.inj hv
  clear hv
  obtain ⟨h13, eh13⟩ : ∃ z, z = h1 := ⟨_, rfl⟩
  rw [← eh13] at hq ⊢
  clear eh13
  show mv_rq l G mX5_readCount (d + 1) 16 [some (.ref u0), some (.int u1), none] [] h13 _
  refine q_aload_n dX5_readCount_16 rfl ?_
  obtain ⟨⟨fs17, f17⟩, hq⟩ := vob_e hq
  refine q_cV (Y := mX5_seesPath) (As := []) (st := []) (b := u0) (ci := 7) vc_X5_seesPath dX5_readCount_17 ml_RX5_166 rfl f17 rfl (Nat.le_of_ble_eq_true rfl) rfl (Nat.le_of_ble_eq_true rfl) hq (fun v h1 hq1 => ?_) (fun E h1 hq1 => ?_)
  rotate_left
  ·
    rcases hq1 with hq1 | ⟨E1, e1, hq1⟩
    · obtain ⟨_, z, _⟩ := hq1; exact nomatch z
    · obtain rfl := Sum.inr.inj e1; exact q_xout (fun z hz => nomatch hz) hq1
  rcases hq1 with hq1 | ⟨E1, e1, hq1⟩
  rotate_left
  · exact nomatch e1
  obtain ⟨x17, hv, hq⟩ := hq1
  obtain rfl := Sum.inl.inj hv
  clear hv
  obtain ⟨h17, eh17⟩ : ∃ z, z = h1 := ⟨_, rfl⟩
  rw [← eh17] at hq ⊢
  clear eh17
  show mv_rq l G mX5_readCount (d + 1) 20 [some (.ref u0), some (.int u1), none] [.int x17] h17 _
  refine q_if_ne (tgt := 37) dX5_readCount_20 (by decide) (fun c20 => ?_) (fun c20 => ?_)
  ·
    have hq := vif_f hq c20
    exact mv_weak (A := [some (.ref u0), some (.int u1), none]) (by repeat' constructor) hq
  ·
    have hq := vif_t hq c20
    refine q_aload_n dX5_readCount_23 rfl ?_
    obtain ⟨fs24, x24, f24, g24, hq⟩ := vgb_e hq
    refine q_getf (k := 0) (T := TX5) (C0 := RX5) (N := 2) (ci := 7) dX5_readCount_24 fl_RX5_12 rfl uin_RX5 (by decide) rfl f24 g24 ?_
    refine q_aload_n dX5_readCount_27 rfl ?_
    obtain ⟨fs28, x28, f28, g28, hq⟩ := vgb_e hq
    refine q_getf (k := 0) (T := TX5) (C0 := RX5) (N := 2) (ci := 7) dX5_readCount_28 fl_RX5_12 rfl uin_RX5 (by decide) rfl f28 g28 ?_
    obtain ⟨fs31, x31, f31, g31, hq⟩ := vgi_e hq
    refine q_getf (k := 1) (T := TX0) (C0 := RX0) (N := 3) (ci := 2) dX5_readCount_31 fl_RX5_30 rfl uin_RX0 (by decide) rfl f31 g31 ?_
    obtain ⟨⟨fs34, f34⟩, hq⟩ := vob_e hq
    refine q_cV (Y := mX0_refuse) (As := [.int x31]) (st := []) (b := x24) (ci := 2) vc_X0_refuse dX5_readCount_34 ml_RX5_34 rfl f34 rfl (Nat.le_of_ble_eq_true rfl) rfl (Nat.le_of_ble_eq_true rfl) hq (fun v h1 hq1 => ?_) (fun E h1 hq1 => ?_)
    rotate_left
    ·
      rcases hq1 with hq1 | ⟨E1, e1, hq1⟩
      · exact nomatch hq1.1
      · obtain rfl := Sum.inr.inj e1; exact q_xout (fun z hz => nomatch hz) hq1
    rcases hq1 with hq1 | ⟨E1, e1, hq1⟩
    rotate_left
    · exact nomatch e1
    obtain ⟨hv, hq⟩ := hq1
    obtain rfl := Sum.inl.inj hv
    clear hv
    obtain ⟨h34, eh34⟩ : ∃ z, z = h1 := ⟨_, rfl⟩
    rw [← eh34] at hq ⊢
    clear eh34
    show mv_rq l G mX5_readCount (d + 1) 37 [some (.ref u0), some (.int u1), none] [] h34 _
    exact mv_weak (A := [some (.ref u0), some (.int u1), none]) (by repeat' constructor) hq
def w_X5_readCount_37 (l : Launch) (G : mv_G) (d : Nat) (u0 : Nat) (u1 : Int32) (h : mv_H) (Q : mv_O → mv_H → Prop) : Prop :=
  vnw h 4 (.inr (12, [.int 0, .null, .null, .null])) fun a37 h37 =>
  mv_rq l G mX10_init d 0 (mv_in [.ref a37, .int 3] 2) [] h37 (vU (fun E h1 => Q (.inr E) h1) (fun h42 =>
  vob h42 u0 7 (
  mv_rq l G mX5_readPath d 0 (mv_in [.ref u0, .int (u1 + 1)] 4) [] h42 (vB (fun E h1 => Q (.inr E) h1) (fun x51 h51 =>
  vpu G h51 a37 12 1 (.ref x51) fun h54 =>
  vgb h54 u0 7 0 fun x58 =>
  vob h54 x58 2 (
  mv_rq l G mX0_expect d 0 (mv_in [.ref x58, .int 41] 2) [] h54 (vU (fun E h1 => Q (.inr E) h1) (fun h63 =>
  Q (.inl (some (.ref a37))) h63))))))))
theorem v_X5_readCount_37 {l : Launch} {G : mv_G} {d : Nat} {u0 : Nat} {u1 : Int32} {h : mv_H} {Q : mv_O → mv_H → Prop} (hG : mv_ok G) (hq : w_X5_readCount_37 l G d u0 u1 h Q) : mv_rq l G mX5_readCount (d + 1) 37 [some (.ref u0), some (.int u1), none] [] h Q := by
  unfold w_X5_readCount_37 at hq
  obtain ⟨a37, h37, ea37, eh37, hq⟩ := vnw_e hq
  refine q_new (fs := [.int 0, .null, .null, .null]) (ci := 12) (T := TX10) (N := 4) tyX10 tyX10_ok dX5_readCount_37 cl_RX5_210 inst_RX10 init_RX10 uin_RX10 rfl (by decide) ?_
  rw [← eh37, ← ea37]
  show mv_rq l G mX5_readCount (d + 1) 40 [some (.ref u0), some (.int u1), none] [.ref a37] h37 _
  refine q_dup dX5_readCount_40 rfl ?_
  refine q_iconst (v := 3) dX5_readCount_41 (by decide) ?_
  refine q_cI (Y := mX10_init) (As := [.int 3]) (st := [.ref a37]) (b := a37) ic_X10_init dX5_readCount_42 ml_RX5_212 rfl (Nat.le_of_ble_eq_true rfl) rfl (Nat.le_of_ble_eq_true rfl) hq (fun v h1 hq1 => ?_) (fun E h1 hq1 => ?_)
  rotate_left
  ·
    rcases hq1 with hq1 | ⟨E1, e1, hq1⟩
    · exact nomatch hq1.1
    · obtain rfl := Sum.inr.inj e1; exact q_xout (fun z hz => nomatch hz) hq1
  rcases hq1 with hq1 | ⟨E1, e1, hq1⟩
  rotate_left
  · exact nomatch e1
  obtain ⟨hv, hq⟩ := hq1
  obtain rfl := Sum.inl.inj hv
  clear hv
  obtain ⟨h42, eh42⟩ : ∃ z, z = h1 := ⟨_, rfl⟩
  rw [← eh42] at hq ⊢
  clear eh42
  show mv_rq l G mX5_readCount (d + 1) 45 [some (.ref u0), some (.int u1), none] [.ref a37] h42 _
  refine q_astore_n dX5_readCount_45 (Nat.le_of_ble_eq_true rfl) rfl ?_
  show mv_rq l G mX5_readCount (d + 1) 46 [some (.ref u0), some (.int u1), some (.ref a37)] [] h42 _
  refine q_aload_n dX5_readCount_46 rfl ?_
  refine q_aload_n dX5_readCount_47 rfl ?_
  refine q_iload_n dX5_readCount_48 rfl ?_
  refine q_iconst (v := 1) dX5_readCount_49 (by decide) ?_
  refine q_iadd dX5_readCount_50 ?_
  obtain ⟨⟨fs51, f51⟩, hq⟩ := vob_e hq
  refine q_cV (Y := mX5_readPath) (As := [.int (u1 + 1)]) (st := [.ref a37]) (b := u0) (ci := 7) vc_X5_readPath dX5_readCount_51 ml_RX5_38 rfl f51 rfl (Nat.le_of_ble_eq_true rfl) rfl (Nat.le_of_ble_eq_true rfl) hq (fun v h1 hq1 => ?_) (fun E h1 hq1 => ?_)
  rotate_left
  ·
    rcases hq1 with hq1 | ⟨E1, e1, hq1⟩
    · obtain ⟨_, z, _⟩ := hq1; exact nomatch z
    · obtain rfl := Sum.inr.inj e1; exact q_xout (fun z hz => nomatch hz) hq1
  rcases hq1 with hq1 | ⟨E1, e1, hq1⟩
  rotate_left
  · exact nomatch e1
  obtain ⟨x51, hv, hq⟩ := hq1
  obtain rfl := Sum.inl.inj hv
  clear hv
  obtain ⟨h51, eh51⟩ : ∃ z, z = h1 := ⟨_, rfl⟩
  rw [← eh51] at hq ⊢
  clear eh51
  show mv_rq l G mX5_readCount (d + 1) 54 [some (.ref u0), some (.int u1), some (.ref a37)] [.ref x51, .ref a37] h51 _
  obtain ⟨fs54, h54, f54, b54, l54, e54, hq⟩ := vpu_e hq
  refine q_putf (k := 1) (T := TX10) (C0 := RX10) (N := 4) (ci := 12) (ty := (.object "TreePaths$Path")) tyX10 tyX10_ok nmX10 dX5_readCount_54 fl_RX5_224 rfl uin_RX10 (by decide) rfl rfl (by decide +kernel) rfl rfl b54 f54 l54 ?_
  rw [← e54]
  show mv_rq l G mX5_readCount (d + 1) 57 [some (.ref u0), some (.int u1), some (.ref a37)] [] h54 _
  refine q_aload_n dX5_readCount_57 rfl ?_
  obtain ⟨fs58, x58, f58, g58, hq⟩ := vgb_e hq
  refine q_getf (k := 0) (T := TX5) (C0 := RX5) (N := 2) (ci := 7) dX5_readCount_58 fl_RX5_12 rfl uin_RX5 (by decide) rfl f58 g58 ?_
  refine q_bipush (v := 41) dX5_readCount_61 (by decide) ?_
  obtain ⟨⟨fs63, f63⟩, hq⟩ := vob_e hq
  refine q_cV (Y := mX0_expect) (As := [.int 41]) (st := []) (b := x58) (ci := 2) vc_X0_expect dX5_readCount_63 ml_RX5_100 rfl f63 rfl (Nat.le_of_ble_eq_true rfl) rfl (Nat.le_of_ble_eq_true rfl) hq (fun v h1 hq1 => ?_) (fun E h1 hq1 => ?_)
  rotate_left
  ·
    rcases hq1 with hq1 | ⟨E1, e1, hq1⟩
    · exact nomatch hq1.1
    · obtain rfl := Sum.inr.inj e1; exact q_xout (fun z hz => nomatch hz) hq1
  rcases hq1 with hq1 | ⟨E1, e1, hq1⟩
  rotate_left
  · exact nomatch e1
  obtain ⟨hv, hq⟩ := hq1
  obtain rfl := Sum.inl.inj hv
  clear hv
  obtain ⟨h63, eh63⟩ : ∃ z, z = h1 := ⟨_, rfl⟩
  rw [← eh63] at hq ⊢
  clear eh63
  show mv_rq l G mX5_readCount (d + 1) 66 [some (.ref u0), some (.int u1), some (.ref a37)] [] h63 _
  refine q_aload_n dX5_readCount_66 rfl ?_
  exact q_aret (rt := (.object "TreePaths$Thing")) dX5_readCount_67 rfl (Or.inl ⟨_, rfl⟩) (Or.inr ⟨_, rfl⟩) hq
