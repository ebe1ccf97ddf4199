theorem dX3_init_0 : decode cX3_init 0 = .ok (.aload_n 0, 1) := by decide +kernel
theorem dX3_init_1 : decode cX3_init 1 = .ok (.invokespecial 3, 3) := by decide +kernel
theorem dX3_init_4 : decode cX3_init 4 = .ok (.aload_n 0, 1) := by decide +kernel
theorem dX3_init_5 : decode cX3_init 5 = .ok (.bipush 10, 2) := by decide +kernel
theorem dX3_init_7 : decode cX3_init 7 = .ok (.anewarray 9, 3) := by decide +kernel
theorem dX3_init_10 : decode cX3_init 10 = .ok (.putfield 11, 3) := by decide +kernel
theorem dX3_init_13 : decode cX3_init 13 = .ok (.aload_n 0, 1) := by decide +kernel
theorem dX3_init_14 : decode cX3_init 14 = .ok (.aconst_null, 1) := by decide +kernel
theorem dX3_init_15 : decode cX3_init 15 = .ok (.putfield 17, 3) := by decide +kernel
theorem dX3_init_18 : decode cX3_init 18 = .ok (.aload_n 0, 1) := by decide +kernel
theorem dX3_init_19 : decode cX3_init 19 = .ok (.iconst 0, 1) := by decide +kernel
theorem dX3_init_20 : decode cX3_init 20 = .ok (.putfield 21, 3) := by decide +kernel
theorem dX3_init_23 : decode cX3_init 23 = .ok (.iconst 0, 1) := by decide +kernel
theorem dX3_init_24 : decode cX3_init 24 = .ok (.istore_n 1, 1) := by decide +kernel
theorem dX3_init_25 : decode cX3_init 25 = .ok (.iload_n 1, 1) := by decide +kernel
theorem dX3_init_26 : decode cX3_init 26 = .ok (.aload_n 0, 1) := by decide +kernel
theorem dX3_init_27 : decode cX3_init 27 = .ok (.getfield 11, 3) := by decide +kernel
theorem dX3_init_30 : decode cX3_init 30 = .ok (.arraylength, 1) := by decide +kernel
theorem dX3_init_31 : decode cX3_init 31 = .ok (.if_icmp .ge 22, 3) := by decide +kernel
theorem dX3_init_34 : decode cX3_init 34 = .ok (.aload_n 0, 1) := by decide +kernel
theorem dX3_init_35 : decode cX3_init 35 = .ok (.getfield 11, 3) := by decide +kernel
theorem dX3_init_38 : decode cX3_init 38 = .ok (.iload_n 1, 1) := by decide +kernel
theorem dX3_init_39 : decode cX3_init 39 = .ok (.new 9, 3) := by decide +kernel
theorem dX3_init_42 : decode cX3_init 42 = .ok (.dup, 1) := by decide +kernel
theorem dX3_init_43 : decode cX3_init 43 = .ok (.invokespecial 25, 3) := by decide +kernel
theorem dX3_init_46 : decode cX3_init 46 = .ok (.aastore, 1) := by decide +kernel
theorem dX3_init_47 : decode cX3_init 47 = .ok (.iinc 1 1, 3) := by decide +kernel
theorem dX3_init_50 : decode cX3_init 50 = .ok (.goto (-25), 3) := by decide +kernel
theorem dX3_init_53 : decode cX3_init 53 = .ok (.return_, 1) := by decide +kernel
theorem dX3_run_0 : decode cX3_run 0 = .ok (.aload_n 0, 1) := by decide +kernel
theorem dX3_run_1 : decode cX3_run 1 = .ok (.aload_n 1, 1) := by decide +kernel
theorem dX3_run_2 : decode cX3_run 2 = .ok (.putfield 17, 3) := by decide +kernel
theorem dX3_run_5 : decode cX3_run 5 = .ok (.aload_n 0, 1) := by decide +kernel
theorem dX3_run_6 : decode cX3_run 6 = .ok (.iconst 0, 1) := by decide +kernel
theorem dX3_run_7 : decode cX3_run 7 = .ok (.putfield 21, 3) := by decide +kernel
theorem dX3_run_10 : decode cX3_run 10 = .ok (.aload_n 0, 1) := by decide +kernel
theorem dX3_run_11 : decode cX3_run 11 = .ok (.aload_n 2, 1) := by decide +kernel
theorem dX3_run_12 : decode cX3_run 12 = .ok (.iconst 0, 1) := by decide +kernel
theorem dX3_run_13 : decode cX3_run 13 = .ok (.iconst 0, 1) := by decide +kernel
theorem dX3_run_14 : decode cX3_run 14 = .ok (.invokevirtual 26, 3) := by decide +kernel
theorem dX3_run_17 : decode cX3_run 17 = .ok (.areturn, 1) := by decide +kernel
theorem dX3_refuseBeyondLimit_0 : decode cX3_refuseBeyondLimit 0 = .ok (.iload_n 1, 1) := by decide +kernel
theorem dX3_refuseBeyondLimit_1 : decode cX3_refuseBeyondLimit 1 = .ok (.iconst 4, 1) := by decide +kernel
theorem dX3_refuseBeyondLimit_2 : decode cX3_refuseBeyondLimit 2 = .ok (.if_icmp .le 13, 3) := by decide +kernel
theorem dX3_refuseBeyondLimit_5 : decode cX3_refuseBeyondLimit 5 = .ok (.new 30, 3) := by decide +kernel
theorem dX3_refuseBeyondLimit_8 : decode cX3_refuseBeyondLimit 8 = .ok (.dup, 1) := by decide +kernel
theorem dX3_refuseBeyondLimit_9 : decode cX3_refuseBeyondLimit 9 = .ok (.ldc 32, 2) := by decide +kernel
theorem dX3_refuseBeyondLimit_11 : decode cX3_refuseBeyondLimit 11 = .ok (.invokespecial 34, 3) := by decide +kernel
theorem dX3_refuseBeyondLimit_14 : decode cX3_refuseBeyondLimit 14 = .ok (.athrow, 1) := by decide +kernel
theorem dX3_refuseBeyondLimit_15 : decode cX3_refuseBeyondLimit 15 = .ok (.return_, 1) := by decide +kernel
theorem dX3_follow_0 : decode cX3_follow 0 = .ok (.aload_n 0, 1) := by decide +kernel
theorem dX3_follow_1 : decode cX3_follow 1 = .ok (.iload_n 3, 1) := by decide +kernel
theorem dX3_follow_2 : decode cX3_follow 2 = .ok (.invokevirtual 37, 3) := by decide +kernel
theorem dX3_follow_5 : decode cX3_follow 5 = .ok (.aload_n 0, 1) := by decide +kernel
theorem dX3_follow_6 : decode cX3_follow 6 = .ok (.getfield 11, 3) := by decide +kernel
theorem dX3_follow_9 : decode cX3_follow 9 = .ok (.iconst 2, 1) := by decide +kernel
theorem dX3_follow_10 : decode cX3_follow 10 = .ok (.iload_n 3, 1) := by decide +kernel
theorem dX3_follow_11 : decode cX3_follow 11 = .ok (.imul, 1) := by decide +kernel
theorem dX3_follow_12 : decode cX3_follow 12 = .ok (.aaload, 1) := by decide +kernel
theorem dX3_follow_13 : decode cX3_follow 13 = .ok (.astore 4, 2) := by decide +kernel
theorem dX3_follow_15 : decode cX3_follow 15 = .ok (.aload_n 0, 1) := by decide +kernel
theorem dX3_follow_16 : decode cX3_follow 16 = .ok (.getfield 11, 3) := by decide +kernel
theorem dX3_follow_19 : decode cX3_follow 19 = .ok (.iconst 2, 1) := by decide +kernel
theorem dX3_follow_20 : decode cX3_follow 20 = .ok (.iload_n 3, 1) := by decide +kernel
theorem dX3_follow_21 : decode cX3_follow 21 = .ok (.imul, 1) := by decide +kernel
theorem dX3_follow_22 : decode cX3_follow 22 = .ok (.iconst 1, 1) := by decide +kernel
theorem dX3_follow_23 : decode cX3_follow 23 = .ok (.iadd, 1) := by decide +kernel
theorem dX3_follow_24 : decode cX3_follow 24 = .ok (.aaload, 1) := by decide +kernel
theorem dX3_follow_25 : decode cX3_follow 25 = .ok (.astore 5, 2) := by decide +kernel
theorem dX3_follow_27 : decode cX3_follow 27 = .ok (.aload 4, 2) := by decide +kernel
theorem dX3_follow_29 : decode cX3_follow 29 = .ok (.invokevirtual 41, 3) := by decide +kernel
theorem dX3_follow_32 : decode cX3_follow 32 = .ok (.aload 4, 2) := by decide +kernel
theorem dX3_follow_34 : decode cX3_follow 34 = .ok (.aload_n 1, 1) := by decide +kernel
theorem dX3_follow_35 : decode cX3_follow 35 = .ok (.getfield 44, 3) := by decide +kernel
theorem dX3_follow_38 : decode cX3_follow 38 = .ok (.ifCond .eq 7, 3) := by decide +kernel
theorem dX3_follow_41 : decode cX3_follow 41 = .ok (.iconst 0, 1) := by decide +kernel
theorem dX3_follow_42 : decode cX3_follow 42 = .ok (.goto 4, 3) := by decide +kernel
theorem dX3_follow_45 : decode cX3_follow 45 = .ok (.iload_n 2, 1) := by decide +kernel
theorem dX3_follow_46 : decode cX3_follow 46 = .ok (.invokevirtual 50, 3) := by decide +kernel
theorem dX3_follow_49 : decode cX3_follow 49 = .ok (.aload_n 1, 1) := by decide +kernel
theorem dX3_follow_50 : decode cX3_follow 50 = .ok (.getfield 53, 3) := by decide +kernel
theorem dX3_follow_53 : decode cX3_follow 53 = .ok (.astore 6, 2) := by decide +kernel
theorem dX3_follow_55 : decode cX3_follow 55 = .ok (.aload 6, 2) := by decide +kernel
theorem dX3_follow_57 : decode cX3_follow 57 = .ok (.ifnull 66, 3) := by decide +kernel
theorem dX3_follow_60 : decode cX3_follow 60 = .ok (.aload 5, 2) := by decide +kernel
theorem dX3_follow_62 : decode cX3_follow 62 = .ok (.invokevirtual 41, 3) := by decide +kernel
theorem dX3_follow_65 : decode cX3_follow 65 = .ok (.iconst 0, 1) := by decide +kernel
theorem dX3_follow_66 : decode cX3_follow 66 = .ok (.istore 7, 2) := by decide +kernel
theorem dX3_follow_68 : decode cX3_follow 68 = .ok (.iload 7, 2) := by decide +kernel
theorem dX3_follow_70 : decode cX3_follow 70 = .ok (.aload 4, 2) := by decide +kernel
theorem dX3_follow_72 : decode cX3_follow 72 = .ok (.getfield 57, 3) := by decide +kernel
theorem dX3_follow_75 : decode cX3_follow 75 = .ok (.if_icmp .ge 26, 3) := by decide +kernel
theorem dX3_follow_78 : decode cX3_follow 78 = .ok (.aload_n 0, 1) := by decide +kernel
theorem dX3_follow_79 : decode cX3_follow 79 = .ok (.aload 4, 2) := by decide +kernel
theorem dX3_follow_81 : decode cX3_follow 81 = .ok (.getfield 60, 3) := by decide +kernel
theorem dX3_follow_84 : decode cX3_follow 84 = .ok (.iload 7, 2) := by decide +kernel
theorem dX3_follow_86 : decode cX3_follow 86 = .ok (.iaload, 1) := by decide +kernel
theorem dX3_follow_87 : decode cX3_follow 87 = .ok (.aload 6, 2) := by decide +kernel
theorem dX3_follow_89 : decode cX3_follow 89 = .ok (.aload 5, 2) := by decide +kernel
theorem dX3_follow_91 : decode cX3_follow 91 = .ok (.iload_n 3, 1) := by decide +kernel
theorem dX3_follow_92 : decode cX3_follow 92 = .ok (.invokevirtual 64, 3) := by decide +kernel
theorem dX3_follow_95 : decode cX3_follow 95 = .ok (.iinc 7 1, 3) := by decide +kernel
theorem dX3_follow_98 : decode cX3_follow 98 = .ok (.goto (-30), 3) := by decide +kernel
theorem dX3_follow_101 : decode cX3_follow 101 = .ok (.aload 4, 2) := by decide +kernel
theorem dX3_follow_103 : decode cX3_follow 103 = .ok (.astore 7, 2) := by decide +kernel
theorem dX3_follow_105 : decode cX3_follow 105 = .ok (.aload 5, 2) := by decide +kernel
theorem dX3_follow_107 : decode cX3_follow 107 = .ok (.astore 4, 2) := by decide +kernel
theorem dX3_follow_109 : decode cX3_follow 109 = .ok (.aload 7, 2) := by decide +kernel
theorem dX3_follow_111 : decode cX3_follow 111 = .ok (.astore 5, 2) := by decide +kernel
theorem dX3_follow_113 : decode cX3_follow 113 = .ok (.aload 6, 2) := by decide +kernel
theorem dX3_follow_115 : decode cX3_follow 115 = .ok (.getfield 68, 3) := by decide +kernel
theorem dX3_follow_118 : decode cX3_follow 118 = .ok (.astore 6, 2) := by decide +kernel
theorem dX3_follow_120 : decode cX3_follow 120 = .ok (.goto (-65), 3) := by decide +kernel
theorem dX3_follow_123 : decode cX3_follow 123 = .ok (.aload 4, 2) := by decide +kernel
theorem dX3_follow_125 : decode cX3_follow 125 = .ok (.areturn, 1) := by decide +kernel
theorem dX3_goFrom_0 : decode cX3_goFrom 0 = .ok (.aload_n 2, 1) := by decide +kernel
theorem dX3_goFrom_1 : decode cX3_goFrom 1 = .ok (.getfield 73, 3) := by decide +kernel
theorem dX3_goFrom_4 : decode cX3_goFrom 4 = .ok (.ifCond .eq 18, 3) := by decide +kernel
theorem dX3_goFrom_7 : decode cX3_goFrom 7 = .ok (.aload_n 0, 1) := by decide +kernel
theorem dX3_goFrom_8 : decode cX3_goFrom 8 = .ok (.getfield 17, 3) := by decide +kernel
theorem dX3_goFrom_11 : decode cX3_goFrom 11 = .ok (.getfield 76, 3) := by decide +kernel
theorem dX3_goFrom_14 : decode cX3_goFrom 14 = .ok (.iload_n 1, 1) := by decide +kernel
theorem dX3_goFrom_15 : decode cX3_goFrom 15 = .ok (.aaload, 1) := by decide +kernel
theorem dX3_goFrom_16 : decode cX3_goFrom 16 = .ok (.getfield 81, 3) := by decide +kernel
theorem dX3_goFrom_19 : decode cX3_goFrom 19 = .ok (.goto 6, 3) := by decide +kernel
theorem dX3_goFrom_22 : decode cX3_goFrom 22 = .ok (.iload_n 1, 1) := by decide +kernel
theorem dX3_goFrom_23 : decode cX3_goFrom 23 = .ok (.iconst 1, 1) := by decide +kernel
theorem dX3_goFrom_24 : decode cX3_goFrom 24 = .ok (.iadd, 1) := by decide +kernel
theorem dX3_goFrom_25 : decode cX3_goFrom 25 = .ok (.istore 5, 2) := by decide +kernel
theorem dX3_goFrom_27 : decode cX3_goFrom 27 = .ok (.aload_n 0, 1) := by decide +kernel
theorem dX3_goFrom_28 : decode cX3_goFrom 28 = .ok (.dup, 1) := by decide +kernel
theorem dX3_goFrom_29 : decode cX3_goFrom 29 = .ok (.getfield 21, 3) := by decide +kernel
theorem dX3_goFrom_32 : decode cX3_goFrom 32 = .ok (.iload 5, 2) := by decide +kernel
theorem dX3_goFrom_34 : decode cX3_goFrom 34 = .ok (.iload_n 1, 1) := by decide +kernel
theorem dX3_goFrom_35 : decode cX3_goFrom 35 = .ok (.isub, 1) := by decide +kernel
theorem dX3_goFrom_36 : decode cX3_goFrom 36 = .ok (.iadd, 1) := by decide +kernel
theorem dX3_goFrom_37 : decode cX3_goFrom 37 = .ok (.putfield 21, 3) := by decide +kernel
theorem dX3_goFrom_40 : decode cX3_goFrom 40 = .ok (.aload_n 0, 1) := by decide +kernel
theorem dX3_goFrom_41 : decode cX3_goFrom 41 = .ok (.getfield 21, 3) := by decide +kernel
theorem dX3_goFrom_44 : decode cX3_goFrom 44 = .ok (.ldc 86, 2) := by decide +kernel
theorem dX3_goFrom_46 : decode cX3_goFrom 46 = .ok (.if_icmp .le 13, 3) := by decide +kernel
theorem dX3_goFrom_49 : decode cX3_goFrom 49 = .ok (.new 30, 3) := by decide +kernel
theorem dX3_goFrom_52 : decode cX3_goFrom 52 = .ok (.dup, 1) := by decide +kernel
theorem dX3_goFrom_53 : decode cX3_goFrom 53 = .ok (.ldc 87, 2) := by decide +kernel
theorem dX3_goFrom_55 : decode cX3_goFrom 55 = .ok (.invokespecial 34, 3) := by decide +kernel
theorem dX3_goFrom_58 : decode cX3_goFrom 58 = .ok (.athrow, 1) := by decide +kernel
theorem dX3_goFrom_59 : decode cX3_goFrom 59 = .ok (.iload_n 1, 1) := by decide +kernel
theorem dX3_goFrom_60 : decode cX3_goFrom 60 = .ok (.istore 6, 2) := by decide +kernel
theorem dX3_goFrom_62 : decode cX3_goFrom 62 = .ok (.iload 6, 2) := by decide +kernel
theorem dX3_goFrom_64 : decode cX3_goFrom 64 = .ok (.iload 5, 2) := by decide +kernel
theorem dX3_goFrom_66 : decode cX3_goFrom 66 = .ok (.if_icmp .ge 41, 3) := by decide +kernel
theorem dX3_goFrom_69 : decode cX3_goFrom 69 = .ok (.aload_n 2, 1) := by decide +kernel
theorem dX3_goFrom_70 : decode cX3_goFrom 70 = .ok (.getfield 89, 3) := by decide +kernel
theorem dX3_goFrom_73 : decode cX3_goFrom 73 = .ok (.astore 7, 2) := by decide +kernel
theorem dX3_goFrom_75 : decode cX3_goFrom 75 = .ok (.aload 7, 2) := by decide +kernel
theorem dX3_goFrom_77 : decode cX3_goFrom 77 = .ok (.ifnull 24, 3) := by decide +kernel
theorem dX3_goFrom_80 : decode cX3_goFrom 80 = .ok (.aload_n 0, 1) := by decide +kernel
theorem dX3_goFrom_81 : decode cX3_goFrom 81 = .ok (.iload 6, 2) := by decide +kernel
theorem dX3_goFrom_83 : decode cX3_goFrom 83 = .ok (.aload 7, 2) := by decide +kernel
theorem dX3_goFrom_85 : decode cX3_goFrom 85 = .ok (.aload_n 3, 1) := by decide +kernel
theorem dX3_goFrom_86 : decode cX3_goFrom 86 = .ok (.iload 4, 2) := by decide +kernel
theorem dX3_goFrom_88 : decode cX3_goFrom 88 = .ok (.invokevirtual 92, 3) := by decide +kernel
theorem dX3_goFrom_91 : decode cX3_goFrom 91 = .ok (.aload 7, 2) := by decide +kernel
theorem dX3_goFrom_93 : decode cX3_goFrom 93 = .ok (.getfield 96, 3) := by decide +kernel
theorem dX3_goFrom_96 : decode cX3_goFrom 96 = .ok (.astore 7, 2) := by decide +kernel
theorem dX3_goFrom_98 : decode cX3_goFrom 98 = .ok (.goto (-23), 3) := by decide +kernel
theorem dX3_goFrom_101 : decode cX3_goFrom 101 = .ok (.iinc 6 1, 3) := by decide +kernel
theorem dX3_goFrom_104 : decode cX3_goFrom 104 = .ok (.goto (-42), 3) := by decide +kernel
theorem dX3_goFrom_107 : decode cX3_goFrom 107 = .ok (.return_, 1) := by decide +kernel
theorem dX3_select_0 : decode cX3_select 0 = .ok (.aload_n 2, 1) := by decide +kernel
theorem dX3_select_1 : decode cX3_select 1 = .ok (.getfield 100, 3) := by decide +kernel
theorem dX3_select_4 : decode cX3_select 4 = .ok (.tableswitch 83 0 3 #[32, 51, 60, 73], 32) := by decide +kernel
theorem dX3_select_36 : decode cX3_select 36 = .ok (.aload_n 3, 1) := by decide +kernel
theorem dX3_select_37 : decode cX3_select 37 = .ok (.aload_n 0, 1) := by decide +kernel
theorem dX3_select_38 : decode cX3_select 38 = .ok (.getfield 17, 3) := by decide +kernel
theorem dX3_select_41 : decode cX3_select 41 = .ok (.iload_n 1, 1) := by decide +kernel
theorem dX3_select_42 : decode cX3_select 42 = .ok (.aload_n 2, 1) := by decide +kernel
theorem dX3_select_43 : decode cX3_select 43 = .ok (.getfield 103, 3) := by decide +kernel
theorem dX3_select_46 : decode cX3_select 46 = .ok (.invokevirtual 107, 3) := by decide +kernel
theorem dX3_select_49 : decode cX3_select 49 = .ok (.invokevirtual 111, 3) := by decide +kernel
theorem dX3_select_52 : decode cX3_select 52 = .ok (.goto 49, 3) := by decide +kernel
theorem dX3_select_55 : decode cX3_select 55 = .ok (.aload_n 0, 1) := by decide +kernel
theorem dX3_select_56 : decode cX3_select 56 = .ok (.iload_n 1, 1) := by decide +kernel
theorem dX3_select_57 : decode cX3_select 57 = .ok (.aload_n 3, 1) := by decide +kernel
theorem dX3_select_58 : decode cX3_select 58 = .ok (.invokevirtual 114, 3) := by decide +kernel
theorem dX3_select_61 : decode cX3_select 61 = .ok (.goto 40, 3) := by decide +kernel
theorem dX3_select_64 : decode cX3_select 64 = .ok (.aload_n 0, 1) := by decide +kernel
theorem dX3_select_65 : decode cX3_select 65 = .ok (.iload_n 1, 1) := by decide +kernel
theorem dX3_select_66 : decode cX3_select 66 = .ok (.aload_n 2, 1) := by decide +kernel
theorem dX3_select_67 : decode cX3_select 67 = .ok (.getfield 118, 3) := by decide +kernel
theorem dX3_select_70 : decode cX3_select 70 = .ok (.aload_n 3, 1) := by decide +kernel
theorem dX3_select_71 : decode cX3_select 71 = .ok (.invokevirtual 121, 3) := by decide +kernel
theorem dX3_select_74 : decode cX3_select 74 = .ok (.goto 27, 3) := by decide +kernel
theorem dX3_select_77 : decode cX3_select 77 = .ok (.aload_n 0, 1) := by decide +kernel
theorem dX3_select_78 : decode cX3_select 78 = .ok (.iload_n 1, 1) := by decide +kernel
theorem dX3_select_79 : decode cX3_select 79 = .ok (.aload_n 2, 1) := by decide +kernel
theorem dX3_select_80 : decode cX3_select 80 = .ok (.aload_n 3, 1) := by decide +kernel
theorem dX3_select_81 : decode cX3_select 81 = .ok (.invokevirtual 125, 3) := by decide +kernel
theorem dX3_select_84 : decode cX3_select 84 = .ok (.goto 17, 3) := by decide +kernel
theorem dX3_select_87 : decode cX3_select 87 = .ok (.aload_n 0, 1) := by decide +kernel
theorem dX3_select_88 : decode cX3_select 88 = .ok (.iload_n 1, 1) := by decide +kernel
theorem dX3_select_89 : decode cX3_select 89 = .ok (.aload_n 2, 1) := by decide +kernel
theorem dX3_select_90 : decode cX3_select 90 = .ok (.getfield 129, 3) := by decide +kernel
theorem dX3_select_93 : decode cX3_select 93 = .ok (.aload_n 3, 1) := by decide +kernel
theorem dX3_select_94 : decode cX3_select 94 = .ok (.iload 4, 2) := by decide +kernel
theorem dX3_select_96 : decode cX3_select 96 = .ok (.iconst 1, 1) := by decide +kernel
theorem dX3_select_97 : decode cX3_select 97 = .ok (.iadd, 1) := by decide +kernel
theorem dX3_select_98 : decode cX3_select 98 = .ok (.invokevirtual 133, 3) := by decide +kernel
theorem dX3_select_101 : decode cX3_select 101 = .ok (.return_, 1) := by decide +kernel
theorem dX3_selectAll_0 : decode cX3_selectAll 0 = .ok (.aload_n 0, 1) := by decide +kernel
theorem dX3_selectAll_1 : decode cX3_selectAll 1 = .ok (.getfield 17, 3) := by decide +kernel
theorem dX3_selectAll_4 : decode cX3_selectAll 4 = .ok (.getfield 76, 3) := by decide +kernel
theorem dX3_selectAll_7 : decode cX3_selectAll 7 = .ok (.iload_n 1, 1) := by decide +kernel
theorem dX3_selectAll_8 : decode cX3_selectAll 8 = .ok (.aaload, 1) := by decide +kernel
theorem dX3_selectAll_9 : decode cX3_selectAll 9 = .ok (.invokevirtual 137, 3) := by decide +kernel
theorem dX3_selectAll_12 : decode cX3_selectAll 12 = .ok (.istore_n 3, 1) := by decide +kernel
theorem dX3_selectAll_13 : decode cX3_selectAll 13 = .ok (.iconst 0, 1) := by decide +kernel
theorem dX3_selectAll_14 : decode cX3_selectAll 14 = .ok (.istore 4, 2) := by decide +kernel
theorem dX3_selectAll_16 : decode cX3_selectAll 16 = .ok (.iload 4, 2) := by decide +kernel
theorem dX3_selectAll_18 : decode cX3_selectAll 18 = .ok (.iload_n 3, 1) := by decide +kernel
theorem dX3_selectAll_19 : decode cX3_selectAll 19 = .ok (.if_icmp .ge 25, 3) := by decide +kernel
theorem dX3_selectAll_22 : decode cX3_selectAll 22 = .ok (.aload_n 2, 1) := by decide +kernel
theorem dX3_selectAll_23 : decode cX3_selectAll 23 = .ok (.aload_n 0, 1) := by decide +kernel
theorem dX3_selectAll_24 : decode cX3_selectAll 24 = .ok (.getfield 17, 3) := by decide +kernel
theorem dX3_selectAll_27 : decode cX3_selectAll 27 = .ok (.getfield 141, 3) := by decide +kernel
theorem dX3_selectAll_30 : decode cX3_selectAll 30 = .ok (.iload_n 1, 1) := by decide +kernel
theorem dX3_selectAll_31 : decode cX3_selectAll 31 = .ok (.aaload, 1) := by decide +kernel
theorem dX3_selectAll_32 : decode cX3_selectAll 32 = .ok (.iload 4, 2) := by decide +kernel
theorem dX3_selectAll_34 : decode cX3_selectAll 34 = .ok (.iaload, 1) := by decide +kernel
theorem dX3_selectAll_35 : decode cX3_selectAll 35 = .ok (.invokevirtual 50, 3) := by decide +kernel
theorem dX3_selectAll_38 : decode cX3_selectAll 38 = .ok (.iinc 4 1, 3) := by decide +kernel
theorem dX3_selectAll_41 : decode cX3_selectAll 41 = .ok (.goto (-25), 3) := by decide +kernel
theorem dX3_selectAll_44 : decode cX3_selectAll 44 = .ok (.return_, 1) := by decide +kernel
theorem dX3_selectPlace_0 : decode cX3_selectPlace 0 = .ok (.aload_n 0, 1) := by decide +kernel
theorem dX3_selectPlace_1 : decode cX3_selectPlace 1 = .ok (.getfield 17, 3) := by decide +kernel
theorem dX3_selectPlace_4 : decode cX3_selectPlace 4 = .ok (.getfield 76, 3) := by decide +kernel
theorem dX3_selectPlace_7 : decode cX3_selectPlace 7 = .ok (.iload_n 1, 1) := by decide +kernel
theorem dX3_selectPlace_8 : decode cX3_selectPlace 8 = .ok (.aaload, 1) := by decide +kernel
theorem dX3_selectPlace_9 : decode cX3_selectPlace 9 = .ok (.astore 4, 2) := by decide +kernel
theorem dX3_selectPlace_11 : decode cX3_selectPlace 11 = .ok (.aload 4, 2) := by decide +kernel
theorem dX3_selectPlace_13 : decode cX3_selectPlace 13 = .ok (.getfield 145, 3) := by decide +kernel
theorem dX3_selectPlace_16 : decode cX3_selectPlace 16 = .ok (.iconst 5, 1) := by decide +kernel
theorem dX3_selectPlace_17 : decode cX3_selectPlace 17 = .ok (.if_icmp .ne 24, 3) := by decide +kernel
theorem dX3_selectPlace_20 : decode cX3_selectPlace 20 = .ok (.aload_n 3, 1) := by decide +kernel
theorem dX3_selectPlace_21 : decode cX3_selectPlace 21 = .ok (.aload_n 0, 1) := by decide +kernel
theorem dX3_selectPlace_22 : decode cX3_selectPlace 22 = .ok (.getfield 17, 3) := by decide +kernel
theorem dX3_selectPlace_25 : decode cX3_selectPlace 25 = .ok (.iload_n 1, 1) := by decide +kernel
theorem dX3_selectPlace_26 : decode cX3_selectPlace 26 = .ok (.iload_n 2, 1) := by decide +kernel
theorem dX3_selectPlace_27 : decode cX3_selectPlace 27 = .ok (.aload 4, 2) := by decide +kernel
theorem dX3_selectPlace_29 : decode cX3_selectPlace 29 = .ok (.getfield 146, 3) := by decide +kernel
theorem dX3_selectPlace_32 : decode cX3_selectPlace 32 = .ok (.invokestatic 149, 3) := by decide +kernel
theorem dX3_selectPlace_35 : decode cX3_selectPlace 35 = .ok (.invokevirtual 153, 3) := by decide +kernel
theorem dX3_selectPlace_38 : decode cX3_selectPlace 38 = .ok (.invokevirtual 111, 3) := by decide +kernel
theorem dX3_selectPlace_41 : decode cX3_selectPlace 41 = .ok (.return_, 1) := by decide +kernel
theorem dX3_fromBegin_0 : decode cX3_fromBegin 0 = .ok (.iload_n 0, 1) := by decide +kernel
theorem dX3_fromBegin_1 : decode cX3_fromBegin 1 = .ok (.ifCond .ge 9, 3) := by decide +kernel
theorem dX3_fromBegin_4 : decode cX3_fromBegin 4 = .ok (.iload_n 1, 1) := by decide +kernel
theorem dX3_fromBegin_5 : decode cX3_fromBegin 5 = .ok (.iload_n 0, 1) := by decide +kernel
theorem dX3_fromBegin_6 : decode cX3_fromBegin 6 = .ok (.iadd, 1) := by decide +kernel
theorem dX3_fromBegin_7 : decode cX3_fromBegin 7 = .ok (.goto 4, 3) := by decide +kernel
theorem dX3_fromBegin_10 : decode cX3_fromBegin 10 = .ok (.iload_n 0, 1) := by decide +kernel
theorem dX3_fromBegin_11 : decode cX3_fromBegin 11 = .ok (.ireturn, 1) := by decide +kernel
theorem dX3_selectStretch_0 : decode cX3_selectStretch 0 = .ok (.aload_n 0, 1) := by decide +kernel
theorem dX3_selectStretch_1 : decode cX3_selectStretch 1 = .ok (.getfield 17, 3) := by decide +kernel
theorem dX3_selectStretch_4 : decode cX3_selectStretch 4 = .ok (.getfield 76, 3) := by decide +kernel
theorem dX3_selectStretch_7 : decode cX3_selectStretch 7 = .ok (.iload_n 1, 1) := by decide +kernel
theorem dX3_selectStretch_8 : decode cX3_selectStretch 8 = .ok (.aaload, 1) := by decide +kernel
theorem dX3_selectStretch_9 : decode cX3_selectStretch 9 = .ok (.getfield 145, 3) := by decide +kernel
theorem dX3_selectStretch_12 : decode cX3_selectStretch 12 = .ok (.iconst 5, 1) := by decide +kernel
theorem dX3_selectStretch_13 : decode cX3_selectStretch 13 = .ok (.if_icmp .ne 10, 3) := by decide +kernel
theorem dX3_selectStretch_16 : decode cX3_selectStretch 16 = .ok (.aload_n 2, 1) := by decide +kernel
theorem dX3_selectStretch_17 : decode cX3_selectStretch 17 = .ok (.getfield 156, 3) := by decide +kernel
theorem dX3_selectStretch_20 : decode cX3_selectStretch 20 = .ok (.ifCond .ne 4, 3) := by decide +kernel
theorem dX3_selectStretch_23 : decode cX3_selectStretch 23 = .ok (.return_, 1) := by decide +kernel
theorem dX3_selectStretch_24 : decode cX3_selectStretch 24 = .ok (.aload_n 0, 1) := by decide +kernel
theorem dX3_selectStretch_25 : decode cX3_selectStretch 25 = .ok (.getfield 17, 3) := by decide +kernel
theorem dX3_selectStretch_28 : decode cX3_selectStretch 28 = .ok (.getfield 76, 3) := by decide +kernel
theorem dX3_selectStretch_31 : decode cX3_selectStretch 31 = .ok (.iload_n 1, 1) := by decide +kernel
theorem dX3_selectStretch_32 : decode cX3_selectStretch 32 = .ok (.aaload, 1) := by decide +kernel
theorem dX3_selectStretch_33 : decode cX3_selectStretch 33 = .ok (.getfield 146, 3) := by decide +kernel
theorem dX3_selectStretch_36 : decode cX3_selectStretch 36 = .ok (.istore 4, 2) := by decide +kernel
theorem dX3_selectStretch_38 : decode cX3_selectStretch 38 = .ok (.aload_n 2, 1) := by decide +kernel
theorem dX3_selectStretch_39 : decode cX3_selectStretch 39 = .ok (.getfield 156, 3) := by decide +kernel
theorem dX3_selectStretch_42 : decode cX3_selectStretch 42 = .ok (.ifCond .le 7, 3) := by decide +kernel
theorem dX3_selectStretch_45 : decode cX3_selectStretch 45 = .ok (.iconst 1, 1) := by decide +kernel
theorem dX3_selectStretch_46 : decode cX3_selectStretch 46 = .ok (.goto 4, 3) := by decide +kernel
theorem dX3_selectStretch_49 : decode cX3_selectStretch 49 = .ok (.iconst 0, 1) := by decide +kernel
theorem dX3_selectStretch_50 : decode cX3_selectStretch 50 = .ok (.istore 5, 2) := by decide +kernel
theorem dX3_selectStretch_52 : decode cX3_selectStretch 52 = .ok (.iload 5, 2) := by decide +kernel
theorem dX3_selectStretch_54 : decode cX3_selectStretch 54 = .ok (.ifCond .eq 12, 3) := by decide +kernel
theorem dX3_selectStretch_57 : decode cX3_selectStretch 57 = .ok (.aload_n 2, 1) := by decide +kernel
theorem dX3_selectStretch_58 : decode cX3_selectStretch 58 = .ok (.iload 4, 2) := by decide +kernel
theorem dX3_selectStretch_60 : decode cX3_selectStretch 60 = .ok (.invokestatic 159, 3) := by decide +kernel
theorem dX3_selectStretch_63 : decode cX3_selectStretch 63 = .ok (.goto 9, 3) := by decide +kernel
theorem dX3_selectStretch_66 : decode cX3_selectStretch 66 = .ok (.aload_n 2, 1) := by decide +kernel
theorem dX3_selectStretch_67 : decode cX3_selectStretch 67 = .ok (.iload 4, 2) := by decide +kernel
theorem dX3_selectStretch_69 : decode cX3_selectStretch 69 = .ok (.invokestatic 163, 3) := by decide +kernel
theorem dX3_selectStretch_72 : decode cX3_selectStretch 72 = .ok (.istore 6, 2) := by decide +kernel
theorem dX3_selectStretch_74 : decode cX3_selectStretch 74 = .ok (.iload 5, 2) := by decide +kernel
theorem dX3_selectStretch_76 : decode cX3_selectStretch 76 = .ok (.ifCond .eq 12, 3) := by decide +kernel
theorem dX3_selectStretch_79 : decode cX3_selectStretch 79 = .ok (.aload_n 2, 1) := by decide +kernel
theorem dX3_selectStretch_80 : decode cX3_selectStretch 80 = .ok (.iload 4, 2) := by decide +kernel
theorem dX3_selectStretch_82 : decode cX3_selectStretch 82 = .ok (.invokestatic 166, 3) := by decide +kernel
theorem dX3_selectStretch_85 : decode cX3_selectStretch 85 = .ok (.goto 9, 3) := by decide +kernel
theorem dX3_selectStretch_88 : decode cX3_selectStretch 88 = .ok (.aload_n 2, 1) := by decide +kernel
theorem dX3_selectStretch_89 : decode cX3_selectStretch 89 = .ok (.iload 4, 2) := by decide +kernel
theorem dX3_selectStretch_91 : decode cX3_selectStretch 91 = .ok (.invokestatic 169, 3) := by decide +kernel
theorem dX3_selectStretch_94 : decode cX3_selectStretch 94 = .ok (.istore 7, 2) := by decide +kernel
theorem dX3_selectStretch_96 : decode cX3_selectStretch 96 = .ok (.iconst 0, 1) := by decide +kernel
theorem dX3_selectStretch_97 : decode cX3_selectStretch 97 = .ok (.istore 8, 2) := by decide +kernel
theorem dX3_selectStretch_99 : decode cX3_selectStretch 99 = .ok (.iload 8, 2) := by decide +kernel
theorem dX3_selectStretch_101 : decode cX3_selectStretch 101 = .ok (.iload 4, 2) := by decide +kernel
theorem dX3_selectStretch_103 : decode cX3_selectStretch 103 = .ok (.if_icmp .ge 57, 3) := by decide +kernel
theorem dX3_selectStretch_106 : decode cX3_selectStretch 106 = .ok (.iload 6, 2) := by decide +kernel
theorem dX3_selectStretch_108 : decode cX3_selectStretch 108 = .ok (.iload 8, 2) := by decide +kernel
theorem dX3_selectStretch_110 : decode cX3_selectStretch 110 = .ok (.aload_n 2, 1) := by decide +kernel
theorem dX3_selectStretch_111 : decode cX3_selectStretch 111 = .ok (.getfield 156, 3) := by decide +kernel
theorem dX3_selectStretch_114 : decode cX3_selectStretch 114 = .ok (.imul, 1) := by decide +kernel
theorem dX3_selectStretch_115 : decode cX3_selectStretch 115 = .ok (.iadd, 1) := by decide +kernel
theorem dX3_selectStretch_116 : decode cX3_selectStretch 116 = .ok (.istore 9, 2) := by decide +kernel
theorem dX3_selectStretch_118 : decode cX3_selectStretch 118 = .ok (.iload 5, 2) := by decide +kernel
theorem dX3_selectStretch_120 : decode cX3_selectStretch 120 = .ok (.ifCond .eq 13, 3) := by decide +kernel
theorem dX3_selectStretch_123 : decode cX3_selectStretch 123 = .ok (.iload 9, 2) := by decide +kernel
theorem dX3_selectStretch_125 : decode cX3_selectStretch 125 = .ok (.iload 7, 2) := by decide +kernel
theorem dX3_selectStretch_127 : decode cX3_selectStretch 127 = .ok (.if_icmp .ge 27, 3) := by decide +kernel
theorem dX3_selectStretch_130 : decode cX3_selectStretch 130 = .ok (.goto 10, 3) := by decide +kernel
theorem dX3_selectStretch_133 : decode cX3_selectStretch 133 = .ok (.iload 9, 2) := by decide +kernel
theorem dX3_selectStretch_135 : decode cX3_selectStretch 135 = .ok (.iload 7, 2) := by decide +kernel
theorem dX3_selectStretch_137 : decode cX3_selectStretch 137 = .ok (.if_icmp .le 17, 3) := by decide +kernel
theorem dX3_selectStretch_140 : decode cX3_selectStretch 140 = .ok (.aload_n 3, 1) := by decide +kernel
theorem dX3_selectStretch_141 : decode cX3_selectStretch 141 = .ok (.aload_n 0, 1) := by decide +kernel
theorem dX3_selectStretch_142 : decode cX3_selectStretch 142 = .ok (.getfield 17, 3) := by decide +kernel
theorem dX3_selectStretch_145 : decode cX3_selectStretch 145 = .ok (.iload_n 1, 1) := by decide +kernel
theorem dX3_selectStretch_146 : decode cX3_selectStretch 146 = .ok (.iload 9, 2) := by decide +kernel
theorem dX3_selectStretch_148 : decode cX3_selectStretch 148 = .ok (.invokevirtual 153, 3) := by decide +kernel
theorem dX3_selectStretch_151 : decode cX3_selectStretch 151 = .ok (.invokevirtual 111, 3) := by decide +kernel
theorem dX3_selectStretch_154 : decode cX3_selectStretch 154 = .ok (.iinc 8 1, 3) := by decide +kernel
theorem dX3_selectStretch_157 : decode cX3_selectStretch 157 = .ok (.goto (-58), 3) := by decide +kernel
theorem dX3_selectStretch_160 : decode cX3_selectStretch 160 = .ok (.return_, 1) := by decide +kernel
theorem dX3_firstUpwards_0 : decode cX3_firstUpwards 0 = .ok (.aload_n 0, 1) := by decide +kernel
theorem dX3_firstUpwards_1 : decode cX3_firstUpwards 1 = .ok (.getfield 172, 3) := by decide +kernel
theorem dX3_firstUpwards_4 : decode cX3_firstUpwards 4 = .ok (.ifCond .eq 18, 3) := by decide +kernel
theorem dX3_firstUpwards_7 : decode cX3_firstUpwards 7 = .ok (.iconst 0, 1) := by decide +kernel
theorem dX3_firstUpwards_8 : decode cX3_firstUpwards 8 = .ok (.aload_n 0, 1) := by decide +kernel
theorem dX3_firstUpwards_9 : decode cX3_firstUpwards 9 = .ok (.getfield 118, 3) := by decide +kernel
theorem dX3_firstUpwards_12 : decode cX3_firstUpwards 12 = .ok (.iload_n 1, 1) := by decide +kernel
theorem dX3_firstUpwards_13 : decode cX3_firstUpwards 13 = .ok (.invokestatic 149, 3) := by decide +kernel
theorem dX3_firstUpwards_16 : decode cX3_firstUpwards 16 = .ok (.invokestatic 175, 3) := by decide +kernel
theorem dX3_firstUpwards_19 : decode cX3_firstUpwards 19 = .ok (.goto 4, 3) := by decide +kernel
theorem dX3_firstUpwards_22 : decode cX3_firstUpwards 22 = .ok (.iconst 0, 1) := by decide +kernel
theorem dX3_firstUpwards_23 : decode cX3_firstUpwards 23 = .ok (.ireturn, 1) := by decide +kernel
theorem dX3_endUpwards_0 : decode cX3_endUpwards 0 = .ok (.aload_n 0, 1) := by decide +kernel
theorem dX3_endUpwards_1 : decode cX3_endUpwards 1 = .ok (.getfield 180, 3) := by decide +kernel
theorem dX3_endUpwards_4 : decode cX3_endUpwards 4 = .ok (.ifCond .eq 14, 3) := by decide +kernel
theorem dX3_endUpwards_7 : decode cX3_endUpwards 7 = .ok (.aload_n 0, 1) := by decide +kernel
theorem dX3_endUpwards_8 : decode cX3_endUpwards 8 = .ok (.getfield 183, 3) := by decide +kernel
theorem dX3_endUpwards_11 : decode cX3_endUpwards 11 = .ok (.iload_n 1, 1) := by decide +kernel
theorem dX3_endUpwards_12 : decode cX3_endUpwards 12 = .ok (.invokestatic 149, 3) := by decide +kernel
theorem dX3_endUpwards_15 : decode cX3_endUpwards 15 = .ok (.goto 4, 3) := by decide +kernel
theorem dX3_endUpwards_18 : decode cX3_endUpwards 18 = .ok (.iload_n 1, 1) := by decide +kernel
theorem dX3_endUpwards_19 : decode cX3_endUpwards 19 = .ok (.ireturn, 1) := by decide +kernel
theorem dX3_firstDownwards_0 : decode cX3_firstDownwards 0 = .ok (.aload_n 0, 1) := by decide +kernel
theorem dX3_firstDownwards_1 : decode cX3_firstDownwards 1 = .ok (.getfield 172, 3) := by decide +kernel
theorem dX3_firstDownwards_4 : decode cX3_firstDownwards 4 = .ok (.ifCond .eq 14, 3) := by decide +kernel
theorem dX3_firstDownwards_7 : decode cX3_firstDownwards 7 = .ok (.aload_n 0, 1) := by decide +kernel
theorem dX3_firstDownwards_8 : decode cX3_firstDownwards 8 = .ok (.getfield 118, 3) := by decide +kernel
theorem dX3_firstDownwards_11 : decode cX3_firstDownwards 11 = .ok (.iload_n 1, 1) := by decide +kernel
theorem dX3_firstDownwards_12 : decode cX3_firstDownwards 12 = .ok (.invokestatic 149, 3) := by decide +kernel
theorem dX3_firstDownwards_15 : decode cX3_firstDownwards 15 = .ok (.goto 6, 3) := by decide +kernel
theorem dX3_firstDownwards_18 : decode cX3_firstDownwards 18 = .ok (.iload_n 1, 1) := by decide +kernel
theorem dX3_firstDownwards_19 : decode cX3_firstDownwards 19 = .ok (.iconst 1, 1) := by decide +kernel
theorem dX3_firstDownwards_20 : decode cX3_firstDownwards 20 = .ok (.isub, 1) := by decide +kernel
theorem dX3_firstDownwards_21 : decode cX3_firstDownwards 21 = .ok (.istore_n 2, 1) := by decide +kernel
theorem dX3_firstDownwards_22 : decode cX3_firstDownwards 22 = .ok (.iload_n 2, 1) := by decide +kernel
theorem dX3_firstDownwards_23 : decode cX3_firstDownwards 23 = .ok (.iload_n 1, 1) := by decide +kernel
theorem dX3_firstDownwards_24 : decode cX3_firstDownwards 24 = .ok (.if_icmp .lt 10, 3) := by decide +kernel
theorem dX3_firstDownwards_27 : decode cX3_firstDownwards 27 = .ok (.aload_n 0, 1) := by decide +kernel
theorem dX3_firstDownwards_28 : decode cX3_firstDownwards 28 = .ok (.getfield 156, 3) := by decide +kernel
theorem dX3_firstDownwards_31 : decode cX3_firstDownwards 31 = .ok (.ifCond .lt 5, 3) := by decide +kernel
theorem dX3_firstDownwards_34 : decode cX3_firstDownwards 34 = .ok (.iload_n 2, 1) := by decide +kernel
theorem dX3_firstDownwards_35 : decode cX3_firstDownwards 35 = .ok (.ireturn, 1) := by decide +kernel
theorem dX3_firstDownwards_36 : decode cX3_firstDownwards 36 = .ok (.iload_n 2, 1) := by decide +kernel
theorem dX3_firstDownwards_37 : decode cX3_firstDownwards 37 = .ok (.iload_n 1, 1) := by decide +kernel
theorem dX3_firstDownwards_38 : decode cX3_firstDownwards 38 = .ok (.isub, 1) := by decide +kernel
theorem dX3_firstDownwards_39 : decode cX3_firstDownwards 39 = .ok (.aload_n 0, 1) := by decide +kernel
theorem dX3_firstDownwards_40 : decode cX3_firstDownwards 40 = .ok (.getfield 156, 3) := by decide +kernel
theorem dX3_firstDownwards_43 : decode cX3_firstDownwards 43 = .ok (.ineg, 1) := by decide +kernel
theorem dX3_firstDownwards_44 : decode cX3_firstDownwards 44 = .ok (.idiv, 1) := by decide +kernel
theorem dX3_firstDownwards_45 : decode cX3_firstDownwards 45 = .ok (.iconst 1, 1) := by decide +kernel
theorem dX3_firstDownwards_46 : decode cX3_firstDownwards 46 = .ok (.iadd, 1) := by decide +kernel
theorem dX3_firstDownwards_47 : decode cX3_firstDownwards 47 = .ok (.istore_n 3, 1) := by decide +kernel
theorem dX3_firstDownwards_48 : decode cX3_firstDownwards 48 = .ok (.iload_n 2, 1) := by decide +kernel
theorem dX3_firstDownwards_49 : decode cX3_firstDownwards 49 = .ok (.iload_n 3, 1) := by decide +kernel
theorem dX3_firstDownwards_50 : decode cX3_firstDownwards 50 = .ok (.aload_n 0, 1) := by decide +kernel
theorem dX3_firstDownwards_51 : decode cX3_firstDownwards 51 = .ok (.getfield 156, 3) := by decide +kernel
theorem dX3_firstDownwards_54 : decode cX3_firstDownwards 54 = .ok (.imul, 1) := by decide +kernel
theorem dX3_firstDownwards_55 : decode cX3_firstDownwards 55 = .ok (.iadd, 1) := by decide +kernel
theorem dX3_firstDownwards_56 : decode cX3_firstDownwards 56 = .ok (.ireturn, 1) := by decide +kernel
theorem dX3_endDownwards_0 : decode cX3_endDownwards 0 = .ok (.aload_n 0, 1) := by decide +kernel
theorem dX3_endDownwards_1 : decode cX3_endDownwards 1 = .ok (.getfield 180, 3) := by decide +kernel
theorem dX3_endDownwards_4 : decode cX3_endDownwards 4 = .ok (.ifCond .eq 14, 3) := by decide +kernel
theorem dX3_endDownwards_7 : decode cX3_endDownwards 7 = .ok (.aload_n 0, 1) := by decide +kernel
theorem dX3_endDownwards_8 : decode cX3_endDownwards 8 = .ok (.getfield 183, 3) := by decide +kernel
theorem dX3_endDownwards_11 : decode cX3_endDownwards 11 = .ok (.iload_n 1, 1) := by decide +kernel
theorem dX3_endDownwards_12 : decode cX3_endDownwards 12 = .ok (.invokestatic 149, 3) := by decide +kernel
theorem dX3_endDownwards_15 : decode cX3_endDownwards 15 = .ok (.goto 4, 3) := by decide +kernel
theorem dX3_endDownwards_18 : decode cX3_endDownwards 18 = .ok (.iconst (-1), 1) := by decide +kernel
theorem dX3_endDownwards_19 : decode cX3_endDownwards 19 = .ok (.ireturn, 1) := by decide +kernel
theorem dX3_selectHolding_0 : decode cX3_selectHolding 0 = .ok (.aload_n 0, 1) := by decide +kernel
theorem dX3_selectHolding_1 : decode cX3_selectHolding 1 = .ok (.getfield 17, 3) := by decide +kernel
theorem dX3_selectHolding_4 : decode cX3_selectHolding 4 = .ok (.getfield 76, 3) := by decide +kernel
theorem dX3_selectHolding_7 : decode cX3_selectHolding 7 = .ok (.iload_n 1, 1) := by decide +kernel
theorem dX3_selectHolding_8 : decode cX3_selectHolding 8 = .ok (.aaload, 1) := by decide +kernel
theorem dX3_selectHolding_9 : decode cX3_selectHolding 9 = .ok (.invokevirtual 137, 3) := by decide +kernel
theorem dX3_selectHolding_12 : decode cX3_selectHolding 12 = .ok (.istore 5, 2) := by decide +kernel
theorem dX3_selectHolding_14 : decode cX3_selectHolding 14 = .ok (.iconst 0, 1) := by decide +kernel
theorem dX3_selectHolding_15 : decode cX3_selectHolding 15 = .ok (.istore 6, 2) := by decide +kernel
theorem dX3_selectHolding_17 : decode cX3_selectHolding 17 = .ok (.iload 6, 2) := by decide +kernel
theorem dX3_selectHolding_19 : decode cX3_selectHolding 19 = .ok (.iload 5, 2) := by decide +kernel
theorem dX3_selectHolding_21 : decode cX3_selectHolding 21 = .ok (.if_icmp .ge 41, 3) := by decide +kernel
theorem dX3_selectHolding_24 : decode cX3_selectHolding 24 = .ok (.aload_n 0, 1) := by decide +kernel
theorem dX3_selectHolding_25 : decode cX3_selectHolding 25 = .ok (.getfield 17, 3) := by decide +kernel
theorem dX3_selectHolding_28 : decode cX3_selectHolding 28 = .ok (.getfield 141, 3) := by decide +kernel
theorem dX3_selectHolding_31 : decode cX3_selectHolding 31 = .ok (.iload_n 1, 1) := by decide +kernel
theorem dX3_selectHolding_32 : decode cX3_selectHolding 32 = .ok (.aaload, 1) := by decide +kernel
theorem dX3_selectHolding_33 : decode cX3_selectHolding 33 = .ok (.iload 6, 2) := by decide +kernel
theorem dX3_selectHolding_35 : decode cX3_selectHolding 35 = .ok (.iaload, 1) := by decide +kernel
theorem dX3_selectHolding_36 : decode cX3_selectHolding 36 = .ok (.istore 7, 2) := by decide +kernel
theorem dX3_selectHolding_38 : decode cX3_selectHolding 38 = .ok (.aload_n 0, 1) := by decide +kernel
theorem dX3_selectHolding_39 : decode cX3_selectHolding 39 = .ok (.aload_n 2, 1) := by decide +kernel
theorem dX3_selectHolding_40 : decode cX3_selectHolding 40 = .ok (.iload 7, 2) := by decide +kernel
theorem dX3_selectHolding_42 : decode cX3_selectHolding 42 = .ok (.iload 4, 2) := by decide +kernel
theorem dX3_selectHolding_44 : decode cX3_selectHolding 44 = .ok (.invokevirtual 186, 3) := by decide +kernel
theorem dX3_selectHolding_47 : decode cX3_selectHolding 47 = .ok (.ifCond .eq 9, 3) := by decide +kernel
theorem dX3_selectHolding_50 : decode cX3_selectHolding 50 = .ok (.aload_n 3, 1) := by decide +kernel
theorem dX3_selectHolding_51 : decode cX3_selectHolding 51 = .ok (.iload 7, 2) := by decide +kernel
theorem dX3_selectHolding_53 : decode cX3_selectHolding 53 = .ok (.invokevirtual 50, 3) := by decide +kernel
theorem dX3_selectHolding_56 : decode cX3_selectHolding 56 = .ok (.iinc 6 1, 3) := by decide +kernel
theorem dX3_selectHolding_59 : decode cX3_selectHolding 59 = .ok (.goto (-42), 3) := by decide +kernel
theorem dX3_selectHolding_62 : decode cX3_selectHolding 62 = .ok (.return_, 1) := by decide +kernel
theorem dX3_anyHolds_0 : decode cX3_anyHolds 0 = .ok (.iconst 0, 1) := by decide +kernel
theorem dX3_anyHolds_1 : decode cX3_anyHolds 1 = .ok (.istore 4, 2) := by decide +kernel
theorem dX3_anyHolds_3 : decode cX3_anyHolds 3 = .ok (.aload_n 1, 1) := by decide +kernel
theorem dX3_anyHolds_4 : decode cX3_anyHolds 4 = .ok (.getfield 190, 3) := by decide +kernel
theorem dX3_anyHolds_7 : decode cX3_anyHolds 7 = .ok (.astore 5, 2) := by decide +kernel
theorem dX3_anyHolds_9 : decode cX3_anyHolds 9 = .ok (.aload 5, 2) := by decide +kernel
theorem dX3_anyHolds_11 : decode cX3_anyHolds 11 = .ok (.ifnull 26, 3) := by decide +kernel
theorem dX3_anyHolds_14 : decode cX3_anyHolds 14 = .ok (.iload 4, 2) := by decide +kernel
theorem dX3_anyHolds_16 : decode cX3_anyHolds 16 = .ok (.aload_n 0, 1) := by decide +kernel
theorem dX3_anyHolds_17 : decode cX3_anyHolds 17 = .ok (.aload 5, 2) := by decide +kernel
theorem dX3_anyHolds_19 : decode cX3_anyHolds 19 = .ok (.iload_n 2, 1) := by decide +kernel
theorem dX3_anyHolds_20 : decode cX3_anyHolds 20 = .ok (.iload_n 3, 1) := by decide +kernel
theorem dX3_anyHolds_21 : decode cX3_anyHolds 21 = .ok (.invokevirtual 194, 3) := by decide +kernel
theorem dX3_anyHolds_24 : decode cX3_anyHolds 24 = .ok (.ior, 1) := by decide +kernel
theorem dX3_anyHolds_25 : decode cX3_anyHolds 25 = .ok (.istore 4, 2) := by decide +kernel
theorem dX3_anyHolds_27 : decode cX3_anyHolds 27 = .ok (.aload 5, 2) := by decide +kernel
theorem dX3_anyHolds_29 : decode cX3_anyHolds 29 = .ok (.getfield 197, 3) := by decide +kernel
theorem dX3_anyHolds_32 : decode cX3_anyHolds 32 = .ok (.astore 5, 2) := by decide +kernel
theorem dX3_anyHolds_34 : decode cX3_anyHolds 34 = .ok (.goto (-25), 3) := by decide +kernel
theorem dX3_anyHolds_37 : decode cX3_anyHolds 37 = .ok (.iload 4, 2) := by decide +kernel
theorem dX3_anyHolds_39 : decode cX3_anyHolds 39 = .ok (.ireturn, 1) := by decide +kernel
theorem dX3_allHold_0 : decode cX3_allHold 0 = .ok (.iconst 1, 1) := by decide +kernel
theorem dX3_allHold_1 : decode cX3_allHold 1 = .ok (.istore 4, 2) := by decide +kernel
theorem dX3_allHold_3 : decode cX3_allHold 3 = .ok (.aload_n 1, 1) := by decide +kernel
theorem dX3_allHold_4 : decode cX3_allHold 4 = .ok (.getfield 190, 3) := by decide +kernel
theorem dX3_allHold_7 : decode cX3_allHold 7 = .ok (.astore 5, 2) := by decide +kernel
theorem dX3_allHold_9 : decode cX3_allHold 9 = .ok (.aload 5, 2) := by decide +kernel
theorem dX3_allHold_11 : decode cX3_allHold 11 = .ok (.ifnull 26, 3) := by decide +kernel
theorem dX3_allHold_14 : decode cX3_allHold 14 = .ok (.iload 4, 2) := by decide +kernel
theorem dX3_allHold_16 : decode cX3_allHold 16 = .ok (.aload_n 0, 1) := by decide +kernel
theorem dX3_allHold_17 : decode cX3_allHold 17 = .ok (.aload 5, 2) := by decide +kernel
theorem dX3_allHold_19 : decode cX3_allHold 19 = .ok (.iload_n 2, 1) := by decide +kernel
theorem dX3_allHold_20 : decode cX3_allHold 20 = .ok (.iload_n 3, 1) := by decide +kernel
theorem dX3_allHold_21 : decode cX3_allHold 21 = .ok (.invokevirtual 199, 3) := by decide +kernel
theorem dX3_allHold_24 : decode cX3_allHold 24 = .ok (.iand, 1) := by decide +kernel
theorem dX3_allHold_25 : decode cX3_allHold 25 = .ok (.istore 4, 2) := by decide +kernel
theorem dX3_allHold_27 : decode cX3_allHold 27 = .ok (.aload 5, 2) := by decide +kernel
theorem dX3_allHold_29 : decode cX3_allHold 29 = .ok (.getfield 197, 3) := by decide +kernel
theorem dX3_allHold_32 : decode cX3_allHold 32 = .ok (.astore 5, 2) := by decide +kernel
theorem dX3_allHold_34 : decode cX3_allHold 34 = .ok (.goto (-25), 3) := by decide +kernel
theorem dX3_allHold_37 : decode cX3_allHold 37 = .ok (.iload 4, 2) := by decide +kernel
theorem dX3_allHold_39 : decode cX3_allHold 39 = .ok (.ireturn, 1) := by decide +kernel
theorem dX3_holds_0 : decode cX3_holds 0 = .ok (.aload_n 0, 1) := by decide +kernel
theorem dX3_holds_1 : decode cX3_holds 1 = .ok (.iload_n 3, 1) := by decide +kernel
theorem dX3_holds_2 : decode cX3_holds 2 = .ok (.invokevirtual 37, 3) := by decide +kernel
theorem dX3_holds_5 : decode cX3_holds 5 = .ok (.aload_n 1, 1) := by decide +kernel
theorem dX3_holds_6 : decode cX3_holds 6 = .ok (.getfield 202, 3) := by decide +kernel
theorem dX3_holds_9 : decode cX3_holds 9 = .ok (.tableswitch 84 0 3 #[31, 84, 41, 62], 31) := by decide +kernel
theorem dX3_holds_40 : decode cX3_holds 40 = .ok (.aload_n 0, 1) := by decide +kernel
theorem dX3_holds_41 : decode cX3_holds 41 = .ok (.aload_n 1, 1) := by decide +kernel
theorem dX3_holds_42 : decode cX3_holds 42 = .ok (.iload_n 2, 1) := by decide +kernel
theorem dX3_holds_43 : decode cX3_holds 43 = .ok (.iload_n 3, 1) := by decide +kernel
theorem dX3_holds_44 : decode cX3_holds 44 = .ok (.iconst 1, 1) := by decide +kernel
theorem dX3_holds_45 : decode cX3_holds 45 = .ok (.iadd, 1) := by decide +kernel
theorem dX3_holds_46 : decode cX3_holds 46 = .ok (.invokevirtual 186, 3) := by decide +kernel
theorem dX3_holds_49 : decode cX3_holds 49 = .ok (.ireturn, 1) := by decide +kernel
theorem dX3_holds_50 : decode cX3_holds 50 = .ok (.aload_n 0, 1) := by decide +kernel
theorem dX3_holds_51 : decode cX3_holds 51 = .ok (.aload_n 1, 1) := by decide +kernel
theorem dX3_holds_52 : decode cX3_holds 52 = .ok (.getfield 190, 3) := by decide +kernel
theorem dX3_holds_55 : decode cX3_holds 55 = .ok (.iload_n 2, 1) := by decide +kernel
theorem dX3_holds_56 : decode cX3_holds 56 = .ok (.iload_n 3, 1) := by decide +kernel
theorem dX3_holds_57 : decode cX3_holds 57 = .ok (.iconst 1, 1) := by decide +kernel
theorem dX3_holds_58 : decode cX3_holds 58 = .ok (.iadd, 1) := by decide +kernel
theorem dX3_holds_59 : decode cX3_holds 59 = .ok (.invokevirtual 199, 3) := by decide +kernel
theorem dX3_holds_62 : decode cX3_holds 62 = .ok (.ifCond .ne 7, 3) := by decide +kernel
theorem dX3_holds_65 : decode cX3_holds 65 = .ok (.iconst 1, 1) := by decide +kernel
theorem dX3_holds_66 : decode cX3_holds 66 = .ok (.goto 4, 3) := by decide +kernel
theorem dX3_holds_69 : decode cX3_holds 69 = .ok (.iconst 0, 1) := by decide +kernel
theorem dX3_holds_70 : decode cX3_holds 70 = .ok (.ireturn, 1) := by decide +kernel
theorem dX3_holds_71 : decode cX3_holds 71 = .ok (.aload_n 0, 1) := by decide +kernel
theorem dX3_holds_72 : decode cX3_holds 72 = .ok (.aload_n 1, 1) := by decide +kernel
theorem dX3_holds_73 : decode cX3_holds 73 = .ok (.getfield 203, 3) := by decide +kernel
theorem dX3_holds_76 : decode cX3_holds 76 = .ok (.iload_n 2, 1) := by decide +kernel
theorem dX3_holds_77 : decode cX3_holds 77 = .ok (.iload_n 3, 1) := by decide +kernel
theorem dX3_holds_78 : decode cX3_holds 78 = .ok (.invokevirtual 26, 3) := by decide +kernel
theorem dX3_holds_81 : decode cX3_holds 81 = .ok (.getfield 57, 3) := by decide +kernel
theorem dX3_holds_84 : decode cX3_holds 84 = .ok (.ifCond .le 7, 3) := by decide +kernel
theorem dX3_holds_87 : decode cX3_holds 87 = .ok (.iconst 1, 1) := by decide +kernel
theorem dX3_holds_88 : decode cX3_holds 88 = .ok (.goto 4, 3) := by decide +kernel
theorem dX3_holds_91 : decode cX3_holds 91 = .ok (.iconst 0, 1) := by decide +kernel
theorem dX3_holds_92 : decode cX3_holds 92 = .ok (.ireturn, 1) := by decide +kernel
theorem dX3_holds_93 : decode cX3_holds 93 = .ok (.aload_n 0, 1) := by decide +kernel
theorem dX3_holds_94 : decode cX3_holds 94 = .ok (.aload_n 1, 1) := by decide +kernel
theorem dX3_holds_95 : decode cX3_holds 95 = .ok (.getfield 207, 3) := by decide +kernel
theorem dX3_holds_98 : decode cX3_holds 98 = .ok (.iload_n 2, 1) := by decide +kernel
theorem dX3_holds_99 : decode cX3_holds 99 = .ok (.iload_n 3, 1) := by decide +kernel
theorem dX3_holds_100 : decode cX3_holds 100 = .ok (.invokevirtual 211, 3) := by decide +kernel
theorem dX3_holds_103 : decode cX3_holds 103 = .ok (.astore 4, 2) := by decide +kernel
theorem dX3_holds_105 : decode cX3_holds 105 = .ok (.aload_n 0, 1) := by decide +kernel
theorem dX3_holds_106 : decode cX3_holds 106 = .ok (.aload_n 1, 1) := by decide +kernel
theorem dX3_holds_107 : decode cX3_holds 107 = .ok (.getfield 215, 3) := by decide +kernel
theorem dX3_holds_110 : decode cX3_holds 110 = .ok (.iload_n 2, 1) := by decide +kernel
theorem dX3_holds_111 : decode cX3_holds 111 = .ok (.iload_n 3, 1) := by decide +kernel
theorem dX3_holds_112 : decode cX3_holds 112 = .ok (.invokevirtual 211, 3) := by decide +kernel
theorem dX3_holds_115 : decode cX3_holds 115 = .ok (.astore 5, 2) := by decide +kernel
theorem dX3_holds_117 : decode cX3_holds 117 = .ok (.aload_n 0, 1) := by decide +kernel
theorem dX3_holds_118 : decode cX3_holds 118 = .ok (.aload 4, 2) := by decide +kernel
theorem dX3_holds_120 : decode cX3_holds 120 = .ok (.aload_n 1, 1) := by decide +kernel
theorem dX3_holds_121 : decode cX3_holds 121 = .ok (.getfield 218, 3) := by decide +kernel
theorem dX3_holds_124 : decode cX3_holds 124 = .ok (.aload 5, 2) := by decide +kernel
theorem dX3_holds_126 : decode cX3_holds 126 = .ok (.invokevirtual 221, 3) := by decide +kernel
theorem dX3_holds_129 : decode cX3_holds 129 = .ok (.ireturn, 1) := by decide +kernel
theorem dX3_valueOf_0 : decode cX3_valueOf 0 = .ok (.aload_n 0, 1) := by decide +kernel
theorem dX3_valueOf_1 : decode cX3_valueOf 1 = .ok (.iload_n 3, 1) := by decide +kernel
theorem dX3_valueOf_2 : decode cX3_valueOf 2 = .ok (.invokevirtual 37, 3) := by decide +kernel
theorem dX3_valueOf_5 : decode cX3_valueOf 5 = .ok (.aload_n 1, 1) := by decide +kernel
theorem dX3_valueOf_6 : decode cX3_valueOf 6 = .ok (.getfield 225, 3) := by decide +kernel
theorem dX3_valueOf_9 : decode cX3_valueOf 9 = .ok (.tableswitch 117 1 3 #[27, 67, 87], 27) := by decide +kernel
theorem dX3_valueOf_36 : decode cX3_valueOf 36 = .ok (.aload_n 0, 1) := by decide +kernel
theorem dX3_valueOf_37 : decode cX3_valueOf 37 = .ok (.aload_n 1, 1) := by decide +kernel
theorem dX3_valueOf_38 : decode cX3_valueOf 38 = .ok (.getfield 228, 3) := by decide +kernel
theorem dX3_valueOf_41 : decode cX3_valueOf 41 = .ok (.iload_n 2, 1) := by decide +kernel
theorem dX3_valueOf_42 : decode cX3_valueOf 42 = .ok (.iload_n 3, 1) := by decide +kernel
theorem dX3_valueOf_43 : decode cX3_valueOf 43 = .ok (.invokevirtual 26, 3) := by decide +kernel
theorem dX3_valueOf_46 : decode cX3_valueOf 46 = .ok (.astore 4, 2) := by decide +kernel
theorem dX3_valueOf_48 : decode cX3_valueOf 48 = .ok (.aload 4, 2) := by decide +kernel
theorem dX3_valueOf_50 : decode cX3_valueOf 50 = .ok (.getfield 57, 3) := by decide +kernel
theorem dX3_valueOf_53 : decode cX3_valueOf 53 = .ok (.ifCond .le 21, 3) := by decide +kernel
theorem dX3_valueOf_56 : decode cX3_valueOf 56 = .ok (.aload_n 0, 1) := by decide +kernel
theorem dX3_valueOf_57 : decode cX3_valueOf 57 = .ok (.getfield 17, 3) := by decide +kernel
theorem dX3_valueOf_60 : decode cX3_valueOf 60 = .ok (.getfield 76, 3) := by decide +kernel
theorem dX3_valueOf_63 : decode cX3_valueOf 63 = .ok (.aload 4, 2) := by decide +kernel
theorem dX3_valueOf_65 : decode cX3_valueOf 65 = .ok (.getfield 60, 3) := by decide +kernel
theorem dX3_valueOf_68 : decode cX3_valueOf 68 = .ok (.iconst 0, 1) := by decide +kernel
theorem dX3_valueOf_69 : decode cX3_valueOf 69 = .ok (.iaload, 1) := by decide +kernel
theorem dX3_valueOf_70 : decode cX3_valueOf 70 = .ok (.aaload, 1) := by decide +kernel
theorem dX3_valueOf_71 : decode cX3_valueOf 71 = .ok (.goto 4, 3) := by decide +kernel
theorem dX3_valueOf_74 : decode cX3_valueOf 74 = .ok (.aconst_null, 1) := by decide +kernel
theorem dX3_valueOf_75 : decode cX3_valueOf 75 = .ok (.areturn, 1) := by decide +kernel
theorem dX3_valueOf_76 : decode cX3_valueOf 76 = .ok (.aload_n 0, 1) := by decide +kernel
theorem dX3_valueOf_77 : decode cX3_valueOf 77 = .ok (.aload_n 1, 1) := by decide +kernel
theorem dX3_valueOf_78 : decode cX3_valueOf 78 = .ok (.getfield 229, 3) := by decide +kernel
theorem dX3_valueOf_81 : decode cX3_valueOf 81 = .ok (.iload_n 2, 1) := by decide +kernel
theorem dX3_valueOf_82 : decode cX3_valueOf 82 = .ok (.iload_n 3, 1) := by decide +kernel
theorem dX3_valueOf_83 : decode cX3_valueOf 83 = .ok (.iconst 1, 1) := by decide +kernel
theorem dX3_valueOf_84 : decode cX3_valueOf 84 = .ok (.iadd, 1) := by decide +kernel
theorem dX3_valueOf_85 : decode cX3_valueOf 85 = .ok (.invokevirtual 211, 3) := by decide +kernel
theorem dX3_valueOf_88 : decode cX3_valueOf 88 = .ok (.aload_n 1, 1) := by decide +kernel
theorem dX3_valueOf_89 : decode cX3_valueOf 89 = .ok (.getfield 232, 3) := by decide +kernel
theorem dX3_valueOf_92 : decode cX3_valueOf 92 = .ok (.invokestatic 236, 3) := by decide +kernel
theorem dX3_valueOf_95 : decode cX3_valueOf 95 = .ok (.areturn, 1) := by decide +kernel
theorem dX3_valueOf_96 : decode cX3_valueOf 96 = .ok (.aload_n 1, 1) := by decide +kernel
theorem dX3_valueOf_97 : decode cX3_valueOf 97 = .ok (.getfield 232, 3) := by decide +kernel
theorem dX3_valueOf_100 : decode cX3_valueOf 100 = .ok (.iconst 3, 1) := by decide +kernel
theorem dX3_valueOf_101 : decode cX3_valueOf 101 = .ok (.aload_n 0, 1) := by decide +kernel
theorem dX3_valueOf_102 : decode cX3_valueOf 102 = .ok (.aload_n 1, 1) := by decide +kernel
theorem dX3_valueOf_103 : decode cX3_valueOf 103 = .ok (.getfield 228, 3) := by decide +kernel
theorem dX3_valueOf_106 : decode cX3_valueOf 106 = .ok (.iload_n 2, 1) := by decide +kernel
theorem dX3_valueOf_107 : decode cX3_valueOf 107 = .ok (.iload_n 3, 1) := by decide +kernel
theorem dX3_valueOf_108 : decode cX3_valueOf 108 = .ok (.iconst 1, 1) := by decide +kernel
theorem dX3_valueOf_109 : decode cX3_valueOf 109 = .ok (.iadd, 1) := by decide +kernel
theorem dX3_valueOf_110 : decode cX3_valueOf 110 = .ok (.invokevirtual 26, 3) := by decide +kernel
theorem dX3_valueOf_113 : decode cX3_valueOf 113 = .ok (.getfield 57, 3) := by decide +kernel
theorem dX3_valueOf_116 : decode cX3_valueOf 116 = .ok (.ldc 240, 2) := by decide +kernel
theorem dX3_valueOf_118 : decode cX3_valueOf 118 = .ok (.invokevirtual 242, 3) := by decide +kernel
theorem dX3_valueOf_121 : decode cX3_valueOf 121 = .ok (.aload_n 1, 1) := by decide +kernel
theorem dX3_valueOf_122 : decode cX3_valueOf 122 = .ok (.getfield 232, 3) := by decide +kernel
theorem dX3_valueOf_125 : decode cX3_valueOf 125 = .ok (.areturn, 1) := by decide +kernel
theorem dX3_valueOf_126 : decode cX3_valueOf 126 = .ok (.aload_n 1, 1) := by decide +kernel
theorem dX3_valueOf_127 : decode cX3_valueOf 127 = .ok (.getfield 232, 3) := by decide +kernel
theorem dX3_valueOf_130 : decode cX3_valueOf 130 = .ok (.areturn, 1) := by decide +kernel
theorem dX3_lengthOf_0 : decode cX3_lengthOf 0 = .ok (.aload_n 0, 1) := by decide +kernel
theorem dX3_lengthOf_1 : decode cX3_lengthOf 1 = .ok (.ifnull 11, 3) := by decide +kernel
theorem dX3_lengthOf_4 : decode cX3_lengthOf 4 = .ok (.aload_n 0, 1) := by decide +kernel
theorem dX3_lengthOf_5 : decode cX3_lengthOf 5 = .ok (.getfield 145, 3) := by decide +kernel
theorem dX3_lengthOf_8 : decode cX3_lengthOf 8 = .ok (.iconst 4, 1) := by decide +kernel
theorem dX3_lengthOf_9 : decode cX3_lengthOf 9 = .ok (.if_icmp .ge 5, 3) := by decide +kernel
theorem dX3_lengthOf_12 : decode cX3_lengthOf 12 = .ok (.aconst_null, 1) := by decide +kernel
theorem dX3_lengthOf_13 : decode cX3_lengthOf 13 = .ok (.areturn, 1) := by decide +kernel
theorem dX3_lengthOf_14 : decode cX3_lengthOf 14 = .ok (.aload_n 1, 1) := by decide +kernel
theorem dX3_lengthOf_15 : decode cX3_lengthOf 15 = .ok (.iconst 3, 1) := by decide +kernel
theorem dX3_lengthOf_16 : decode cX3_lengthOf 16 = .ok (.aload_n 0, 1) := by decide +kernel
theorem dX3_lengthOf_17 : decode cX3_lengthOf 17 = .ok (.getfield 146, 3) := by decide +kernel
theorem dX3_lengthOf_20 : decode cX3_lengthOf 20 = .ok (.ldc 240, 2) := by decide +kernel
theorem dX3_lengthOf_22 : decode cX3_lengthOf 22 = .ok (.invokevirtual 242, 3) := by decide +kernel
theorem dX3_lengthOf_25 : decode cX3_lengthOf 25 = .ok (.aload_n 1, 1) := by decide +kernel
theorem dX3_lengthOf_26 : decode cX3_lengthOf 26 = .ok (.areturn, 1) := by decide +kernel
theorem dX3_compare_0 : decode cX3_compare 0 = .ok (.iload_n 2, 1) := by decide +kernel
theorem dX3_compare_1 : decode cX3_compare 1 = .ok (.tableswitch 95 0 4 #[35, 43, 59, 65, 89], 35) := by decide +kernel
theorem dX3_compare_36 : decode cX3_compare 36 = .ok (.aload_n 0, 1) := by decide +kernel
theorem dX3_compare_37 : decode cX3_compare 37 = .ok (.aload_n 1, 1) := by decide +kernel
theorem dX3_compare_38 : decode cX3_compare 38 = .ok (.aload_n 3, 1) := by decide +kernel
theorem dX3_compare_39 : decode cX3_compare 39 = .ok (.iconst 0, 1) := by decide +kernel
theorem dX3_compare_40 : decode cX3_compare 40 = .ok (.invokevirtual 246, 3) := by decide +kernel
theorem dX3_compare_43 : decode cX3_compare 43 = .ok (.ireturn, 1) := by decide +kernel
theorem dX3_compare_44 : decode cX3_compare 44 = .ok (.aload_n 0, 1) := by decide +kernel
theorem dX3_compare_45 : decode cX3_compare 45 = .ok (.aload_n 1, 1) := by decide +kernel
theorem dX3_compare_46 : decode cX3_compare 46 = .ok (.aload_n 3, 1) := by decide +kernel
theorem dX3_compare_47 : decode cX3_compare 47 = .ok (.iconst 0, 1) := by decide +kernel
theorem dX3_compare_48 : decode cX3_compare 48 = .ok (.invokevirtual 246, 3) := by decide +kernel
theorem dX3_compare_51 : decode cX3_compare 51 = .ok (.ifCond .ne 7, 3) := by decide +kernel
theorem dX3_compare_54 : decode cX3_compare 54 = .ok (.iconst 1, 1) := by decide +kernel
theorem dX3_compare_55 : decode cX3_compare 55 = .ok (.goto 4, 3) := by decide +kernel
theorem dX3_compare_58 : decode cX3_compare 58 = .ok (.iconst 0, 1) := by decide +kernel
theorem dX3_compare_59 : decode cX3_compare 59 = .ok (.ireturn, 1) := by decide +kernel
theorem dX3_compare_60 : decode cX3_compare 60 = .ok (.aload_n 1, 1) := by decide +kernel
theorem dX3_compare_61 : decode cX3_compare 61 = .ok (.aload_n 3, 1) := by decide +kernel
theorem dX3_compare_62 : decode cX3_compare 62 = .ok (.invokestatic 250, 3) := by decide +kernel
theorem dX3_compare_65 : decode cX3_compare 65 = .ok (.ireturn, 1) := by decide +kernel
theorem dX3_compare_66 : decode cX3_compare 66 = .ok (.aload_n 1, 1) := by decide +kernel
theorem dX3_compare_67 : decode cX3_compare 67 = .ok (.aload_n 3, 1) := by decide +kernel
theorem dX3_compare_68 : decode cX3_compare 68 = .ok (.invokestatic 250, 3) := by decide +kernel
theorem dX3_compare_71 : decode cX3_compare 71 = .ok (.ifCond .ne 13, 3) := by decide +kernel
theorem dX3_compare_74 : decode cX3_compare 74 = .ok (.aload_n 0, 1) := by decide +kernel
theorem dX3_compare_75 : decode cX3_compare 75 = .ok (.aload_n 1, 1) := by decide +kernel
theorem dX3_compare_76 : decode cX3_compare 76 = .ok (.aload_n 3, 1) := by decide +kernel
theorem dX3_compare_77 : decode cX3_compare 77 = .ok (.iconst 0, 1) := by decide +kernel
theorem dX3_compare_78 : decode cX3_compare 78 = .ok (.invokevirtual 246, 3) := by decide +kernel
theorem dX3_compare_81 : decode cX3_compare 81 = .ok (.ifCond .eq 7, 3) := by decide +kernel
theorem dX3_compare_84 : decode cX3_compare 84 = .ok (.iconst 1, 1) := by decide +kernel
theorem dX3_compare_85 : decode cX3_compare 85 = .ok (.goto 4, 3) := by decide +kernel
theorem dX3_compare_88 : decode cX3_compare 88 = .ok (.iconst 0, 1) := by decide +kernel
theorem dX3_compare_89 : decode cX3_compare 89 = .ok (.ireturn, 1) := by decide +kernel
theorem dX3_compare_90 : decode cX3_compare 90 = .ok (.aload_n 3, 1) := by decide +kernel
theorem dX3_compare_91 : decode cX3_compare 91 = .ok (.aload_n 1, 1) := by decide +kernel
theorem dX3_compare_92 : decode cX3_compare 92 = .ok (.invokestatic 250, 3) := by decide +kernel
theorem dX3_compare_95 : decode cX3_compare 95 = .ok (.ireturn, 1) := by decide +kernel
theorem dX3_compare_96 : decode cX3_compare 96 = .ok (.aload_n 3, 1) := by decide +kernel
theorem dX3_compare_97 : decode cX3_compare 97 = .ok (.aload_n 1, 1) := by decide +kernel
theorem dX3_compare_98 : decode cX3_compare 98 = .ok (.invokestatic 250, 3) := by decide +kernel
theorem dX3_compare_101 : decode cX3_compare 101 = .ok (.ifCond .ne 13, 3) := by decide +kernel
theorem dX3_compare_104 : decode cX3_compare 104 = .ok (.aload_n 0, 1) := by decide +kernel
theorem dX3_compare_105 : decode cX3_compare 105 = .ok (.aload_n 1, 1) := by decide +kernel
theorem dX3_compare_106 : decode cX3_compare 106 = .ok (.aload_n 3, 1) := by decide +kernel
theorem dX3_compare_107 : decode cX3_compare 107 = .ok (.iconst 0, 1) := by decide +kernel
theorem dX3_compare_108 : decode cX3_compare 108 = .ok (.invokevirtual 246, 3) := by decide +kernel
theorem dX3_compare_111 : decode cX3_compare 111 = .ok (.ifCond .eq 7, 3) := by decide +kernel
theorem dX3_compare_114 : decode cX3_compare 114 = .ok (.iconst 1, 1) := by decide +kernel
theorem dX3_compare_115 : decode cX3_compare 115 = .ok (.goto 4, 3) := by decide +kernel
theorem dX3_compare_118 : decode cX3_compare 118 = .ok (.iconst 0, 1) := by decide +kernel
theorem dX3_compare_119 : decode cX3_compare 119 = .ok (.ireturn, 1) := by decide +kernel
theorem dX3_equal_0 : decode cX3_equal 0 = .ok (.aload_n 1, 1) := by decide +kernel
theorem dX3_equal_1 : decode cX3_equal 1 = .ok (.aload_n 2, 1) := by decide +kernel
theorem dX3_equal_2 : decode cX3_equal 2 = .ok (.if_acmp .ne 5, 3) := by decide +kernel
theorem dX3_equal_5 : decode cX3_equal 5 = .ok (.iconst 1, 1) := by decide +kernel
theorem dX3_equal_6 : decode cX3_equal 6 = .ok (.ireturn, 1) := by decide +kernel
theorem dX3_equal_7 : decode cX3_equal 7 = .ok (.aload_n 1, 1) := by decide +kernel
theorem dX3_equal_8 : decode cX3_equal 8 = .ok (.ifnull 24, 3) := by decide +kernel
theorem dX3_equal_11 : decode cX3_equal 11 = .ok (.aload_n 2, 1) := by decide +kernel
theorem dX3_equal_12 : decode cX3_equal 12 = .ok (.ifnull 20, 3) := by decide +kernel
theorem dX3_equal_15 : decode cX3_equal 15 = .ok (.aload_n 1, 1) := by decide +kernel
theorem dX3_equal_16 : decode cX3_equal 16 = .ok (.getfield 145, 3) := by decide +kernel
theorem dX3_equal_19 : decode cX3_equal 19 = .ok (.aload_n 2, 1) := by decide +kernel
theorem dX3_equal_20 : decode cX3_equal 20 = .ok (.getfield 145, 3) := by decide +kernel
theorem dX3_equal_23 : decode cX3_equal 23 = .ok (.if_icmp .ne 9, 3) := by decide +kernel
theorem dX3_equal_26 : decode cX3_equal 26 = .ok (.iload_n 3, 1) := by decide +kernel
theorem dX3_equal_27 : decode cX3_equal 27 = .ok (.bipush 6, 2) := by decide +kernel
theorem dX3_equal_29 : decode cX3_equal 29 = .ok (.if_icmp .le 5, 3) := by decide +kernel
theorem dX3_equal_32 : decode cX3_equal 32 = .ok (.iconst 0, 1) := by decide +kernel
theorem dX3_equal_33 : decode cX3_equal 33 = .ok (.ireturn, 1) := by decide +kernel
theorem dX3_equal_34 : decode cX3_equal 34 = .ok (.aload_n 1, 1) := by decide +kernel
theorem dX3_equal_35 : decode cX3_equal 35 = .ok (.getfield 145, 3) := by decide +kernel
theorem dX3_equal_38 : decode cX3_equal 38 = .ok (.tableswitch 86 3 6 #[30, 47, 59, 59], 30) := by decide +kernel
theorem dX3_equal_68 : decode cX3_equal 68 = .ok (.aload_n 1, 1) := by decide +kernel
theorem dX3_equal_69 : decode cX3_equal 69 = .ok (.getfield 146, 3) := by decide +kernel
theorem dX3_equal_72 : decode cX3_equal 72 = .ok (.aload_n 2, 1) := by decide +kernel
theorem dX3_equal_73 : decode cX3_equal 73 = .ok (.getfield 146, 3) := by decide +kernel
theorem dX3_equal_76 : decode cX3_equal 76 = .ok (.if_icmp .ne 7, 3) := by decide +kernel
theorem dX3_equal_79 : decode cX3_equal 79 = .ok (.iconst 1, 1) := by decide +kernel
theorem dX3_equal_80 : decode cX3_equal 80 = .ok (.goto 4, 3) := by decide +kernel
theorem dX3_equal_83 : decode cX3_equal 83 = .ok (.iconst 0, 1) := by decide +kernel
theorem dX3_equal_84 : decode cX3_equal 84 = .ok (.ireturn, 1) := by decide +kernel
theorem dX3_equal_85 : decode cX3_equal 85 = .ok (.aload_n 1, 1) := by decide +kernel
theorem dX3_equal_86 : decode cX3_equal 86 = .ok (.getfield 254, 3) := by decide +kernel
theorem dX3_equal_89 : decode cX3_equal 89 = .ok (.aload_n 2, 1) := by decide +kernel
theorem dX3_equal_90 : decode cX3_equal 90 = .ok (.getfield 254, 3) := by decide +kernel
theorem dX3_equal_93 : decode cX3_equal 93 = .ok (.invokevirtual 257, 3) := by decide +kernel
theorem dX3_equal_96 : decode cX3_equal 96 = .ok (.ireturn, 1) := by decide +kernel
theorem dX3_equal_97 : decode cX3_equal 97 = .ok (.aload_n 1, 1) := by decide +kernel
theorem dX3_equal_98 : decode cX3_equal 98 = .ok (.getfield 146, 3) := by decide +kernel
theorem dX3_equal_101 : decode cX3_equal 101 = .ok (.aload_n 2, 1) := by decide +kernel
theorem dX3_equal_102 : decode cX3_equal 102 = .ok (.getfield 146, 3) := by decide +kernel
theorem dX3_equal_105 : decode cX3_equal 105 = .ok (.if_icmp .ne 17, 3) := by decide +kernel
theorem dX3_equal_108 : decode cX3_equal 108 = .ok (.aload_n 0, 1) := by decide +kernel
theorem dX3_equal_109 : decode cX3_equal 109 = .ok (.aload_n 1, 1) := by decide +kernel
theorem dX3_equal_110 : decode cX3_equal 110 = .ok (.aload_n 2, 1) := by decide +kernel
theorem dX3_equal_111 : decode cX3_equal 111 = .ok (.iload_n 3, 1) := by decide +kernel
theorem dX3_equal_112 : decode cX3_equal 112 = .ok (.invokevirtual 263, 3) := by decide +kernel
theorem dX3_equal_115 : decode cX3_equal 115 = .ok (.ifCond .eq 7, 3) := by decide +kernel
theorem dX3_equal_118 : decode cX3_equal 118 = .ok (.iconst 1, 1) := by decide +kernel
theorem dX3_equal_119 : decode cX3_equal 119 = .ok (.goto 4, 3) := by decide +kernel
theorem dX3_equal_122 : decode cX3_equal 122 = .ok (.iconst 0, 1) := by decide +kernel
theorem dX3_equal_123 : decode cX3_equal 123 = .ok (.ireturn, 1) := by decide +kernel
theorem dX3_equal_124 : decode cX3_equal 124 = .ok (.iconst 1, 1) := by decide +kernel
theorem dX3_equal_125 : decode cX3_equal 125 = .ok (.ireturn, 1) := by decide +kernel
theorem dX3_equalChildren_0 : decode cX3_equalChildren 0 = .ok (.iconst 0, 1) := by decide +kernel
theorem dX3_equalChildren_1 : decode cX3_equalChildren 1 = .ok (.istore 4, 2) := by decide +kernel
theorem dX3_equalChildren_3 : decode cX3_equalChildren 3 = .ok (.iload 4, 2) := by decide +kernel
theorem dX3_equalChildren_5 : decode cX3_equalChildren 5 = .ok (.aload_n 1, 1) := by decide +kernel
theorem dX3_equalChildren_6 : decode cX3_equalChildren 6 = .ok (.getfield 146, 3) := by decide +kernel
theorem dX3_equalChildren_9 : decode cX3_equalChildren 9 = .ok (.if_icmp .ge 106, 3) := by decide +kernel
theorem dX3_equalChildren_12 : decode cX3_equalChildren 12 = .ok (.aload_n 0, 1) := by decide +kernel
theorem dX3_equalChildren_13 : decode cX3_equalChildren 13 = .ok (.getfield 17, 3) := by decide +kernel
theorem dX3_equalChildren_16 : decode cX3_equalChildren 16 = .ok (.getfield 76, 3) := by decide +kernel
theorem dX3_equalChildren_19 : decode cX3_equalChildren 19 = .ok (.aload_n 0, 1) := by decide +kernel
theorem dX3_equalChildren_20 : decode cX3_equalChildren 20 = .ok (.getfield 17, 3) := by decide +kernel
theorem dX3_equalChildren_23 : decode cX3_equalChildren 23 = .ok (.getfield 141, 3) := by decide +kernel
theorem dX3_equalChildren_26 : decode cX3_equalChildren 26 = .ok (.aload_n 1, 1) := by decide +kernel
theorem dX3_equalChildren_27 : decode cX3_equalChildren 27 = .ok (.getfield 266, 3) := by decide +kernel
theorem dX3_equalChildren_30 : decode cX3_equalChildren 30 = .ok (.aaload, 1) := by decide +kernel
theorem dX3_equalChildren_31 : decode cX3_equalChildren 31 = .ok (.iload 4, 2) := by decide +kernel
theorem dX3_equalChildren_33 : decode cX3_equalChildren 33 = .ok (.iaload, 1) := by decide +kernel
theorem dX3_equalChildren_34 : decode cX3_equalChildren 34 = .ok (.aaload, 1) := by decide +kernel
theorem dX3_equalChildren_35 : decode cX3_equalChildren 35 = .ok (.astore 5, 2) := by decide +kernel
theorem dX3_equalChildren_37 : decode cX3_equalChildren 37 = .ok (.aload_n 1, 1) := by decide +kernel
theorem dX3_equalChildren_38 : decode cX3_equalChildren 38 = .ok (.getfield 145, 3) := by decide +kernel
theorem dX3_equalChildren_41 : decode cX3_equalChildren 41 = .ok (.iconst 5, 1) := by decide +kernel
theorem dX3_equalChildren_42 : decode cX3_equalChildren 42 = .ok (.if_icmp .ne 19, 3) := by decide +kernel
theorem dX3_equalChildren_45 : decode cX3_equalChildren 45 = .ok (.aload_n 0, 1) := by decide +kernel
theorem dX3_equalChildren_46 : decode cX3_equalChildren 46 = .ok (.getfield 17, 3) := by decide +kernel
theorem dX3_equalChildren_49 : decode cX3_equalChildren 49 = .ok (.aload_n 2, 1) := by decide +kernel
theorem dX3_equalChildren_50 : decode cX3_equalChildren 50 = .ok (.getfield 266, 3) := by decide +kernel
theorem dX3_equalChildren_53 : decode cX3_equalChildren 53 = .ok (.iload 4, 2) := by decide +kernel
theorem dX3_equalChildren_55 : decode cX3_equalChildren 55 = .ok (.invokevirtual 153, 3) := by decide +kernel
theorem dX3_equalChildren_58 : decode cX3_equalChildren 58 = .ok (.goto 19, 3) := by decide +kernel
theorem dX3_equalChildren_61 : decode cX3_equalChildren 61 = .ok (.aload_n 0, 1) := by decide +kernel
theorem dX3_equalChildren_62 : decode cX3_equalChildren 62 = .ok (.getfield 17, 3) := by decide +kernel
theorem dX3_equalChildren_65 : decode cX3_equalChildren 65 = .ok (.aload_n 2, 1) := by decide +kernel
theorem dX3_equalChildren_66 : decode cX3_equalChildren 66 = .ok (.getfield 266, 3) := by decide +kernel
theorem dX3_equalChildren_69 : decode cX3_equalChildren 69 = .ok (.aload 5, 2) := by decide +kernel
theorem dX3_equalChildren_71 : decode cX3_equalChildren 71 = .ok (.getfield 269, 3) := by decide +kernel
theorem dX3_equalChildren_74 : decode cX3_equalChildren 74 = .ok (.invokevirtual 107, 3) := by decide +kernel
theorem dX3_equalChildren_77 : decode cX3_equalChildren 77 = .ok (.istore 6, 2) := by decide +kernel
theorem dX3_equalChildren_79 : decode cX3_equalChildren 79 = .ok (.iload 6, 2) := by decide +kernel
theorem dX3_equalChildren_81 : decode cX3_equalChildren 81 = .ok (.iconst (-1), 1) := by decide +kernel
theorem dX3_equalChildren_82 : decode cX3_equalChildren 82 = .ok (.if_icmp .eq 25, 3) := by decide +kernel
theorem dX3_equalChildren_85 : decode cX3_equalChildren 85 = .ok (.aload_n 0, 1) := by decide +kernel
theorem dX3_equalChildren_86 : decode cX3_equalChildren 86 = .ok (.aload 5, 2) := by decide +kernel
theorem dX3_equalChildren_88 : decode cX3_equalChildren 88 = .ok (.aload_n 0, 1) := by decide +kernel
theorem dX3_equalChildren_89 : decode cX3_equalChildren 89 = .ok (.getfield 17, 3) := by decide +kernel
theorem dX3_equalChildren_92 : decode cX3_equalChildren 92 = .ok (.getfield 76, 3) := by decide +kernel
theorem dX3_equalChildren_95 : decode cX3_equalChildren 95 = .ok (.iload 6, 2) := by decide +kernel
theorem dX3_equalChildren_97 : decode cX3_equalChildren 97 = .ok (.aaload, 1) := by decide +kernel
theorem dX3_equalChildren_98 : decode cX3_equalChildren 98 = .ok (.iload_n 3, 1) := by decide +kernel
theorem dX3_equalChildren_99 : decode cX3_equalChildren 99 = .ok (.iconst 1, 1) := by decide +kernel
theorem dX3_equalChildren_100 : decode cX3_equalChildren 100 = .ok (.iadd, 1) := by decide +kernel
theorem dX3_equalChildren_101 : decode cX3_equalChildren 101 = .ok (.invokevirtual 246, 3) := by decide +kernel
theorem dX3_equalChildren_104 : decode cX3_equalChildren 104 = .ok (.ifCond .ne 5, 3) := by decide +kernel
theorem dX3_equalChildren_107 : decode cX3_equalChildren 107 = .ok (.iconst 0, 1) := by decide +kernel
theorem dX3_equalChildren_108 : decode cX3_equalChildren 108 = .ok (.ireturn, 1) := by decide +kernel
theorem dX3_equalChildren_109 : decode cX3_equalChildren 109 = .ok (.iinc 4 1, 3) := by decide +kernel
theorem dX3_equalChildren_112 : decode cX3_equalChildren 112 = .ok (.goto (-109), 3) := by decide +kernel
theorem dX3_equalChildren_115 : decode cX3_equalChildren 115 = .ok (.iconst 1, 1) := by decide +kernel
theorem dX3_equalChildren_116 : decode cX3_equalChildren 116 = .ok (.ireturn, 1) := by decide +kernel
theorem dX3_less_0 : decode cX3_less 0 = .ok (.aload_n 0, 1) := by decide +kernel
theorem dX3_less_1 : decode cX3_less 1 = .ok (.ifnull 18, 3) := by decide +kernel
theorem dX3_less_4 : decode cX3_less 4 = .ok (.aload_n 1, 1) := by decide +kernel
theorem dX3_less_5 : decode cX3_less 5 = .ok (.ifnull 14, 3) := by decide +kernel
theorem dX3_less_8 : decode cX3_less 8 = .ok (.aload_n 0, 1) := by decide +kernel
theorem dX3_less_9 : decode cX3_less 9 = .ok (.getfield 145, 3) := by decide +kernel
theorem dX3_less_12 : decode cX3_less 12 = .ok (.aload_n 1, 1) := by decide +kernel
theorem dX3_less_13 : decode cX3_less 13 = .ok (.getfield 145, 3) := by decide +kernel
theorem dX3_less_16 : decode cX3_less 16 = .ok (.if_icmp .eq 5, 3) := by decide +kernel
theorem dX3_less_19 : decode cX3_less 19 = .ok (.iconst 0, 1) := by decide +kernel
theorem dX3_less_20 : decode cX3_less 20 = .ok (.ireturn, 1) := by decide +kernel
theorem dX3_less_21 : decode cX3_less 21 = .ok (.aload_n 0, 1) := by decide +kernel
theorem dX3_less_22 : decode cX3_less 22 = .ok (.getfield 145, 3) := by decide +kernel
theorem dX3_less_25 : decode cX3_less 25 = .ok (.iconst 3, 1) := by decide +kernel
theorem dX3_less_26 : decode cX3_less 26 = .ok (.if_icmp .ne 20, 3) := by decide +kernel
theorem dX3_less_29 : decode cX3_less 29 = .ok (.aload_n 0, 1) := by decide +kernel
theorem dX3_less_30 : decode cX3_less 30 = .ok (.getfield 146, 3) := by decide +kernel
theorem dX3_less_33 : decode cX3_less 33 = .ok (.aload_n 1, 1) := by decide +kernel
theorem dX3_less_34 : decode cX3_less 34 = .ok (.getfield 146, 3) := by decide +kernel
theorem dX3_less_37 : decode cX3_less 37 = .ok (.if_icmp .ge 7, 3) := by decide +kernel
theorem dX3_less_40 : decode cX3_less 40 = .ok (.iconst 1, 1) := by decide +kernel
theorem dX3_less_41 : decode cX3_less 41 = .ok (.goto 4, 3) := by decide +kernel
theorem dX3_less_44 : decode cX3_less 44 = .ok (.iconst 0, 1) := by decide +kernel
theorem dX3_less_45 : decode cX3_less 45 = .ok (.ireturn, 1) := by decide +kernel
theorem dX3_less_46 : decode cX3_less 46 = .ok (.aload_n 0, 1) := by decide +kernel
theorem dX3_less_47 : decode cX3_less 47 = .ok (.getfield 145, 3) := by decide +kernel
theorem dX3_less_50 : decode cX3_less 50 = .ok (.iconst 4, 1) := by decide +kernel
theorem dX3_less_51 : decode cX3_less 51 = .ok (.if_icmp .ne 21, 3) := by decide +kernel
theorem dX3_less_54 : decode cX3_less 54 = .ok (.aload_n 0, 1) := by decide +kernel
theorem dX3_less_55 : decode cX3_less 55 = .ok (.getfield 254, 3) := by decide +kernel
theorem dX3_less_58 : decode cX3_less 58 = .ok (.aload_n 1, 1) := by decide +kernel
theorem dX3_less_59 : decode cX3_less 59 = .ok (.getfield 254, 3) := by decide +kernel
theorem dX3_less_62 : decode cX3_less 62 = .ok (.invokestatic 270, 3) := by decide +kernel
theorem dX3_less_65 : decode cX3_less 65 = .ok (.ifCond .eq 7, 3) := by decide +kernel
theorem dX3_less_68 : decode cX3_less 68 = .ok (.iconst 1, 1) := by decide +kernel
theorem dX3_less_69 : decode cX3_less 69 = .ok (.goto 4, 3) := by decide +kernel
theorem dX3_less_72 : decode cX3_less 72 = .ok (.iconst 0, 1) := by decide +kernel
theorem dX3_less_73 : decode cX3_less 73 = .ok (.ireturn, 1) := by decide +kernel
theorem dX3_lessString_0 : decode cX3_lessString 0 = .ok (.aload_n 0, 1) := by decide +kernel
theorem dX3_lessString_1 : decode cX3_lessString 1 = .ok (.invokevirtual 274, 3) := by decide +kernel
theorem dX3_lessString_4 : decode cX3_lessString 4 = .ok (.aload_n 1, 1) := by decide +kernel
theorem dX3_lessString_5 : decode cX3_lessString 5 = .ok (.invokevirtual 274, 3) := by decide +kernel
theorem dX3_lessString_8 : decode cX3_lessString 8 = .ok (.invokestatic 277, 3) := by decide +kernel
theorem dX3_lessString_11 : decode cX3_lessString 11 = .ok (.istore_n 2, 1) := by decide +kernel
theorem dX3_lessString_12 : decode cX3_lessString 12 = .ok (.iconst 0, 1) := by decide +kernel
theorem dX3_lessString_13 : decode cX3_lessString 13 = .ok (.istore_n 3, 1) := by decide +kernel
theorem dX3_lessString_14 : decode cX3_lessString 14 = .ok (.iload_n 3, 1) := by decide +kernel
theorem dX3_lessString_15 : decode cX3_lessString 15 = .ok (.iload_n 2, 1) := by decide +kernel
theorem dX3_lessString_16 : decode cX3_lessString 16 = .ok (.if_icmp .ge 41, 3) := by decide +kernel
theorem dX3_lessString_19 : decode cX3_lessString 19 = .ok (.aload_n 0, 1) := by decide +kernel
theorem dX3_lessString_20 : decode cX3_lessString 20 = .ok (.iload_n 3, 1) := by decide +kernel
theorem dX3_lessString_21 : decode cX3_lessString 21 = .ok (.invokevirtual 280, 3) := by decide +kernel
theorem dX3_lessString_24 : decode cX3_lessString 24 = .ok (.aload_n 1, 1) := by decide +kernel
theorem dX3_lessString_25 : decode cX3_lessString 25 = .ok (.iload_n 3, 1) := by decide +kernel
theorem dX3_lessString_26 : decode cX3_lessString 26 = .ok (.invokevirtual 280, 3) := by decide +kernel
theorem dX3_lessString_29 : decode cX3_lessString 29 = .ok (.if_icmp .eq 22, 3) := by decide +kernel
theorem dX3_lessString_32 : decode cX3_lessString 32 = .ok (.aload_n 0, 1) := by decide +kernel
theorem dX3_lessString_33 : decode cX3_lessString 33 = .ok (.iload_n 3, 1) := by decide +kernel
theorem dX3_lessString_34 : decode cX3_lessString 34 = .ok (.invokevirtual 280, 3) := by decide +kernel
theorem dX3_lessString_37 : decode cX3_lessString 37 = .ok (.aload_n 1, 1) := by decide +kernel
theorem dX3_lessString_38 : decode cX3_lessString 38 = .ok (.iload_n 3, 1) := by decide +kernel
theorem dX3_lessString_39 : decode cX3_lessString 39 = .ok (.invokevirtual 280, 3) := by decide +kernel
theorem dX3_lessString_42 : decode cX3_lessString 42 = .ok (.if_icmp .ge 7, 3) := by decide +kernel
theorem dX3_lessString_45 : decode cX3_lessString 45 = .ok (.iconst 1, 1) := by decide +kernel
theorem dX3_lessString_46 : decode cX3_lessString 46 = .ok (.goto 4, 3) := by decide +kernel
theorem dX3_lessString_49 : decode cX3_lessString 49 = .ok (.iconst 0, 1) := by decide +kernel
theorem dX3_lessString_50 : decode cX3_lessString 50 = .ok (.ireturn, 1) := by decide +kernel
theorem dX3_lessString_51 : decode cX3_lessString 51 = .ok (.iinc 3 1, 3) := by decide +kernel
theorem dX3_lessString_54 : decode cX3_lessString 54 = .ok (.goto (-40), 3) := by decide +kernel
theorem dX3_lessString_57 : decode cX3_lessString 57 = .ok (.aload_n 0, 1) := by decide +kernel
theorem dX3_lessString_58 : decode cX3_lessString 58 = .ok (.invokevirtual 274, 3) := by decide +kernel
theorem dX3_lessString_61 : decode cX3_lessString 61 = .ok (.aload_n 1, 1) := by decide +kernel
theorem dX3_lessString_62 : decode cX3_lessString 62 = .ok (.invokevirtual 274, 3) := by decide +kernel
theorem dX3_lessString_65 : decode cX3_lessString 65 = .ok (.if_icmp .ge 7, 3) := by decide +kernel
theorem dX3_lessString_68 : decode cX3_lessString 68 = .ok (.iconst 1, 1) := by decide +kernel
theorem dX3_lessString_69 : decode cX3_lessString 69 = .ok (.goto 4, 3) := by decide +kernel
theorem dX3_lessString_72 : decode cX3_lessString 72 = .ok (.iconst 0, 1) := by decide +kernel
theorem dX3_lessString_73 : decode cX3_lessString 73 = .ok (.ireturn, 1) := by decide +kernel
theorem mv_mov_ao {C : String} : mv_mov (.arrayOver (.object C)) := fun _ _ _ _ hW hb => va_AO.use (va_AO.moved hW.alike (va_AO.of hb))
def w_X3_init (l : Launch) (G : mv_G) (d : Nat) (u0 : Nat) (h : mv_H) (Q : mv_O → mv_H → Prop) : Prop :=
  vnw h 10 (.inl (mv_t G 5, 10, .inr (.inr (.inr (.inr (fun _ => none)))))) fun a7 h7 =>
  vpu G h7 u0 5 0 (.ref a7) fun h10 =>
  vpu G h10 u0 5 1 (.null) fun h15 =>
  vpu G h15 u0 5 2 (.int 0) fun h20 =>
  mv_rq l G mX3_init (d + 1) 25 [some (.ref u0), some (.int 0)] [] h20 Q
theorem v_X3_init {l : Launch} {G : mv_G} {d : Nat} {u0 : Nat} {h : mv_H} {Q : mv_O → mv_H → Prop} (hG : mv_ok G) (hq : w_X3_init l G d u0 h Q) : mv_rq l G mX3_init (d + 1) 0 (mv_in [.ref u0] 2) [] h Q := by
  unfold w_X3_init at hq
  show mv_rq l G mX3_init (d + 1) 0 [some (.ref u0), none] [] h _
  refine q_aload_n dX3_init_0 rfl ?_
  refine q_objI dX3_init_1 ml_RX3_3 obj_in obj_co rfl (Nat.le_of_ble_eq_true rfl) ?_
  refine q_aload_n dX3_init_4 rfl ?_
  refine q_bipush (v := 10) dX3_init_5 (by decide) ?_
  obtain ⟨a7, h7, ea7, eh7, hq⟩ := vnw_e hq
  refine q_anew (t0 := 5) (N := 10) dX3_init_7 cl_RX3_9 aov_Row mv_mov_ao (mv_ty hG (t := 5) rfl) (by decide) (by decide) (by decide) ?_
  rw [← eh7, ← ea7]
  show mv_rq l G mX3_init (d + 1) 10 [some (.ref u0), none] [.ref a7, .ref u0] h7 _
  obtain ⟨fs10, h10, f10, b10, l10, e10, hq⟩ := vpu_e hq
  refine q_putF (k := 0) (T := TX3) (C0 := RX3) (N := 3) (ci := 5) (ty := (.array (.object "TreePaths$Row"))) tyX3 tyX3_ok nmX3 dX3_init_10 fl_RX3_11 rfl uin_RX3 (by decide) rfl rfl rfl rfl (by decide +kernel) rfl rfl b10 f10 l10 ?_
  rw [← e10]
  show mv_rq l G mX3_init (d + 1) 13 [some (.ref u0), none] [] h10 _
  refine q_aload_n dX3_init_13 rfl ?_
  refine q_null dX3_init_14 ?_
  obtain ⟨fs15, h15, f15, b15, l15, e15, hq⟩ := vpu_e hq
  refine q_putf (k := 1) (T := TX3) (C0 := RX3) (N := 3) (ci := 5) (ty := (.object "TreePaths$Document")) tyX3 tyX3_ok nmX3 dX3_init_15 fl_RX3_17 rfl uin_RX3 (by decide) rfl rfl (by decide +kernel) rfl rfl b15 f15 l15 ?_
  rw [← e15]
  show mv_rq l G mX3_init (d + 1) 18 [some (.ref u0), none] [] h15 _
  refine q_aload_n dX3_init_18 rfl ?_
  refine q_iconst (v := 0) dX3_init_19 (by decide) ?_
  obtain ⟨fs20, h20, f20, b20, l20, e20, hq⟩ := vpu_e hq
  refine q_putf (k := 2) (T := TX3) (C0 := RX3) (N := 3) (ci := 5) (ty := .int) tyX3 tyX3_ok nmX3 dX3_init_20 fl_RX3_21 rfl uin_RX3 (by decide) rfl rfl (by decide +kernel) rfl rfl b20 f20 l20 ?_
  rw [← e20]
  show mv_rq l G mX3_init (d + 1) 23 [some (.ref u0), none] [] h20 _
  refine q_iconst (v := 0) dX3_init_23 (by decide) ?_
  refine q_istore_n dX3_init_24 (Nat.le_of_ble_eq_true rfl) rfl ?_
  show mv_rq l G mX3_init (d + 1) 25 [some (.ref u0), some (.int 0)] [] h20 _
  exact mv_weak (A := [some (.ref u0), some (.int 0)]) (by repeat' constructor) hq
def w_X3_init_25 (l : Launch) (G : mv_G) (d : Nat) (u0 : Nat) (u1 : Int32) (h : mv_H) (Q : mv_O → mv_H → Prop) : Prop :=
  vgb h u0 5 0 fun x27 =>
  vln G h x27 5 fun x30 =>
  vif (x30 ≤ u1) (
    Q (.inl none) h) (
    vgb h u0 5 0 fun x35 =>
    vnw h 2 (.inr (8, [.null, .int 0])) fun a39 h39 =>
    mv_rq l G mX6_init d 0 (mv_in [.ref a39] 1) [] h39 (vU (fun E h1 => Q (.inr E) h1) (fun h43 =>
    vsa G h43 x35 5 8 u1 a39 fun h46 =>
    mv_rq l G mX3_init (d + 1) 25 [some (.ref u0), some (.int (u1 + 1))] [] h46 Q)))
theorem v_X3_init_25 {l : Launch} {G : mv_G} {d : Nat} {u0 : Nat} {u1 : Int32} {h : mv_H} {Q : mv_O → mv_H → Prop} (hG : mv_ok G) (hq : w_X3_init_25 l G d u0 u1 h Q) : mv_rq l G mX3_init (d + 1) 25 [some (.ref u0), some (.int u1)] [] h Q := by
  unfold w_X3_init_25 at hq
  refine q_iload_n dX3_init_25 rfl ?_
  refine q_aload_n dX3_init_26 rfl ?_
  obtain ⟨fs27, x27, f27, g27, hq⟩ := vgb_e hq
  refine q_getf (k := 0) (T := TX3) (C0 := RX3) (N := 3) (ci := 5) dX3_init_27 fl_RX3_11 rfl uin_RX3 (by decide) rfl f27 g27 ?_
  obtain ⟨y30, x30, g30, e30, hq⟩ := vln_e hq
  refine q_alen (t0 := 5) dX3_init_30 (mv_ty hG (t := 5) rfl) g30 ?_
  rw [← e30]
  show mv_rq l G mX3_init (d + 1) 31 [some (.ref u0), some (.int u1)] [.int x30, .int u1] h _
  refine q_icmp_ge (tgt := 53) dX3_init_31 (by decide) (fun c31 => ?_) (fun c31 => ?_)
  ·
    have hq := vif_t hq c31
    exact q_vret dX3_init_53 rfl hq
  ·
    have hq := vif_f hq c31
    refine q_aload_n dX3_init_34 rfl ?_
    obtain ⟨fs35, x35, f35, g35, hq⟩ := vgb_e hq
    refine q_getf (k := 0) (T := TX3) (C0 := RX3) (N := 3) (ci := 5) dX3_init_35 fl_RX3_11 rfl uin_RX3 (by decide) rfl f35 g35 ?_
    refine q_iload_n dX3_init_38 rfl ?_
    obtain ⟨a39, h39, ea39, eh39, hq⟩ := vnw_e hq
    refine q_new (fs := [.null, .int 0]) (ci := 8) (T := TX6) (N := 2) tyX6 tyX6_ok dX3_init_39 cl_RX3_9 inst_RX6 init_RX6 uin_RX6 rfl (by decide) ?_
    rw [← eh39, ← ea39]
    show mv_rq l G mX3_init (d + 1) 42 [some (.ref u0), some (.int u1)] [.ref a39, .int u1, .ref x35] h39 _
    refine q_dup dX3_init_42 rfl ?_
    refine q_cIN (Y := mX6_init) (As := []) (st := [.ref a39, .int u1, .ref x35]) (b := a39) ic_X6_init dX3_init_43 mn_RX3_25 rfl (Nat.le_of_ble_eq_true rfl) rfl (Nat.le_of_ble_eq_true rfl) hq (fun v h1 hq1 => ?_) (fun E h1 hq1 => ?_)
    rotate_left
    ·
      rcases hq1 with hq1 | ⟨E1, e1, hq1⟩
      · exact nomatch hq1.1
      · obtain rfl := Sum.inr.inj e1; exact q_xout (fun z hz => nomatch hz) hq1
    rcases hq1 with hq1 | ⟨E1, e1, hq1⟩
    rotate_left
    · exact nomatch e1
    obtain ⟨hv, hq⟩ := hq1
    obtain rfl := Sum.inl.inj hv
    clear hv
    obtain ⟨h43, eh43⟩ : ∃ z, z = h1 := ⟨_, rfl⟩
    rw [← eh43] at hq ⊢
    clear eh43
    show mv_rq l G mX3_init (d + 1) 46 [some (.ref u0), some (.int u1)] [.ref a39, .int u1, .ref x35] h43 _
    obtain ⟨n46, f46, h46, g46, ⟨vs46, k46⟩, b46, i46, e46, hq⟩ := vsa_e hq
    refine q_aast (t0 := 5) (ci := 8) dX3_init_46 (mv_ty hG (t := 5) rfl) b46 g46 k46 rfl i46 ?_
    rw [← e46]
    show mv_rq l G mX3_init (d + 1) 47 [some (.ref u0), some (.int u1)] [] h46 _
    refine q_iinc dX3_init_47 rfl rfl ?_
    show mv_rq l G mX3_init (d + 1) 50 [some (.ref u0), some (.int (u1 + 1))] [] h46 _
    refine q_goto (tgt := 25) dX3_init_50 (by decide) ?_
    exact mv_weak (A := [some (.ref u0), some (.int (u1 + 1))]) (by repeat' constructor) hq
def w_X3_run (l : Launch) (G : mv_G) (d : Nat) (u0 : Nat) (u1 : Nat) (u2 : Nat) (h : mv_H) (Q : mv_O → mv_H → Prop) : Prop :=
  vpu G h u0 5 1 (.ref u1) fun h2 =>
  vpu G h2 u0 5 2 (.int 0) fun h7 =>
  vob h7 u0 5 (
  mv_rq l G mX3_follow d 0 (mv_in [.ref u0, .ref u2, .int 0, .int 0] 8) [] h7 (vB (fun E h1 => Q (.inr E) h1) (fun x14 h14 =>
  Q (.inl (some (.ref x14))) h14)))
theorem v_X3_run {l : Launch} {G : mv_G} {d : Nat} {u0 : Nat} {u1 : Nat} {u2 : Nat} {h : mv_H} {Q : mv_O → mv_H → Prop} (hG : mv_ok G) (hq : w_X3_run l G d u0 u1 u2 h Q) : mv_rq l G mX3_run (d + 1) 0 (mv_in [.ref u0, .ref u1, .ref u2] 3) [] h Q := by
  unfold w_X3_run at hq
  show mv_rq l G mX3_run (d + 1) 0 [some (.ref u0), some (.ref u1), some (.ref u2)] [] h _
  refine q_aload_n dX3_run_0 rfl ?_
  refine q_aload_n dX3_run_1 rfl ?_
  obtain ⟨fs2, h2, f2, b2, l2, e2, hq⟩ := vpu_e hq
  refine q_putf (k := 1) (T := TX3) (C0 := RX3) (N := 3) (ci := 5) (ty := (.object "TreePaths$Document")) tyX3 tyX3_ok nmX3 dX3_run_2 fl_RX3_17 rfl uin_RX3 (by decide) rfl rfl (by decide +kernel) rfl rfl b2 f2 l2 ?_
  rw [← e2]
  show mv_rq l G mX3_run (d + 1) 5 [some (.ref u0), some (.ref u1), some (.ref u2)] [] h2 _
  refine q_aload_n dX3_run_5 rfl ?_
  refine q_iconst (v := 0) dX3_run_6 (by decide) ?_
  obtain ⟨fs7, h7, f7, b7, l7, e7, hq⟩ := vpu_e hq
  refine q_putf (k := 2) (T := TX3) (C0 := RX3) (N := 3) (ci := 5) (ty := .int) tyX3 tyX3_ok nmX3 dX3_run_7 fl_RX3_21 rfl uin_RX3 (by decide) rfl rfl (by decide +kernel) rfl rfl b7 f7 l7 ?_
  rw [← e7]
  show mv_rq l G mX3_run (d + 1) 10 [some (.ref u0), some (.ref u1), some (.ref u2)] [] h7 _
  refine q_aload_n dX3_run_10 rfl ?_
  refine q_aload_n dX3_run_11 rfl ?_
  refine q_iconst (v := 0) dX3_run_12 (by decide) ?_
  refine q_iconst (v := 0) dX3_run_13 (by decide) ?_
  obtain ⟨⟨fs14, f14⟩, hq⟩ := vob_e hq
  refine q_cV (Y := mX3_follow) (As := [.ref u2, .int 0, .int 0]) (st := []) (b := u0) (ci := 5) vc_X3_follow dX3_run_14 ml_RX3_26 rfl f14 rfl (Nat.le_of_ble_eq_true rfl) rfl (Nat.le_of_ble_eq_true rfl) hq (fun v h1 hq1 => ?_) (fun E h1 hq1 => ?_)
  rotate_left
  ·
    rcases hq1 with hq1 | ⟨E1, e1, hq1⟩
    · obtain ⟨_, z, _⟩ := hq1; exact nomatch z
    · obtain rfl := Sum.inr.inj e1; exact q_xout (fun z hz => nomatch hz) hq1
  rcases hq1 with hq1 | ⟨E1, e1, hq1⟩
  rotate_left
  · exact nomatch e1
  obtain ⟨x14, hv, hq⟩ := hq1
  obtain rfl := Sum.inl.inj hv
  clear hv
  obtain ⟨h14, eh14⟩ : ∃ z, z = h1 := ⟨_, rfl⟩
  rw [← eh14] at hq ⊢
  clear eh14
  show mv_rq l G mX3_run (d + 1) 17 [some (.ref u0), some (.ref u1), some (.ref u2)] [.ref x14] h14 _
  exact q_aret (rt := (.object "TreePaths$Row")) dX3_run_17 rfl (Or.inl ⟨_, rfl⟩) (Or.inr ⟨_, rfl⟩) hq
def w_X3_refuseBeyondLimit (l : Launch) (G : mv_G) (d : Nat) (u0 : Nat) (u1 : Int32) (h : mv_H) (Q : mv_O → mv_H → Prop) : Prop :=
  vif (u1 ≤ 4) (
    Q (.inl none) h) (
    Q (.inr ("java/lang/UnsupportedOperationException", h.1)) (thr h))
theorem v_X3_refuseBeyondLimit {l : Launch} {G : mv_G} {d : Nat} {u0 : Nat} {u1 : Int32} {h : mv_H} {Q : mv_O → mv_H → Prop} (hG : mv_ok G) (hX : mv_okX l G) (hd : 6 ≤ d) (hq : w_X3_refuseBeyondLimit l G d u0 u1 h Q) : mv_rq l G mX3_refuseBeyondLimit (d + 1) 0 (mv_in [.ref u0, .int u1] 2) [] h Q := by
  unfold w_X3_refuseBeyondLimit at hq
  show mv_rq l G mX3_refuseBeyondLimit (d + 1) 0 [some (.ref u0), some (.int u1)] [] h _
  refine q_iload_n dX3_refuseBeyondLimit_0 rfl ?_
  refine q_iconst (v := 4) dX3_refuseBeyondLimit_1 (by decide) ?_
  refine q_icmp_le (tgt := 15) dX3_refuseBeyondLimit_2 (by decide) (fun c2 => ?_) (fun c2 => ?_)
  ·
    have hq := vif_t hq c2
    exact q_vret dX3_refuseBeyondLimit_15 rfl hq
  ·
    have hq := vif_f hq c2
    exact q_throw (names := mv_exn) hX.1 (by decide +kernel) (by decide +kernel) cl_RX3_30 ini_UnsupportedOperationException (hX.2.2.2.2.2.2.2.1).choose_spec tx_RX3_34 hX.2.1 hX.2.2.1 rfl rfl dX3_refuseBeyondLimit_5 dX3_refuseBeyondLimit_8 dX3_refuseBeyondLimit_9 dX3_refuseBeyondLimit_11 dX3_refuseBeyondLimit_14 (by show 2 + 3 < _; omega) (Nat.le_of_ble_eq_true rfl) hq
def w_X3_follow (l : Launch) (G : mv_G) (d : Nat) (u0 : Nat) (u1 : Nat) (u2 : Int32) (u3 : Int32) (h : mv_H) (Q : mv_O → mv_H → Prop) : Prop :=
  vob h u0 5 (
  mv_rq l G mX3_refuseBeyondLimit d 0 (mv_in [.ref u0, .int u3] 2) [] h (vU (fun E h1 => Q (.inr E) h1) (fun h2 =>
  vgb h2 u0 5 0 fun x6 =>
  vab G h2 x6 5 (2 * u3) fun x12 =>
  vgb h2 u0 5 0 fun x16 =>
  vab G h2 x16 5 ((2 * u3) + 1) fun x24 =>
  vob h2 x12 8 (
  mv_rq l G mX6_clear d 0 (mv_in [.ref x12] 1) [] h2 (vU (fun E h1 => Q (.inr E) h1) (fun h29 =>
  vgi h29 u1 6 0 fun x35 =>
  vif (x35 = 0) (
    mv_rq l G mX3_follow (d + 1) 46 [some (.ref u0), some (.ref u1), none, some (.int u3), some (.ref x12), some (.ref x24), none, none] [.int u2, .ref x12] h29 Q) (
    mv_rq l G mX3_follow (d + 1) 46 [some (.ref u0), some (.ref u1), none, some (.int u3), some (.ref x12), some (.ref x24), none, none] [.int 0, .ref x12] h29 Q)))))))
theorem v_X3_follow {l : Launch} {G : mv_G} {d : Nat} {u0 : Nat} {u1 : Nat} {u2 : Int32} {u3 : Int32} {h : mv_H} {Q : mv_O → mv_H → Prop} (hG : mv_ok G) (hq : w_X3_follow l G d u0 u1 u2 u3 h Q) : mv_rq l G mX3_follow (d + 1) 0 (mv_in [.ref u0, .ref u1, .int u2, .int u3] 8) [] h Q := by
  unfold w_X3_follow at hq
  show mv_rq l G mX3_follow (d + 1) 0 [some (.ref u0), some (.ref u1), some (.int u2), some (.int u3), none, none, none, none] [] h _
  refine q_aload_n dX3_follow_0 rfl ?_
  refine q_iload_n dX3_follow_1 rfl ?_
  obtain ⟨⟨fs2, f2⟩, hq⟩ := vob_e hq
  refine q_cV (Y := mX3_refuseBeyondLimit) (As := [.int u3]) (st := []) (b := u0) (ci := 5) vc_X3_refuseBeyondLimit dX3_follow_2 ml_RX3_37 rfl f2 rfl (Nat.le_of_ble_eq_true rfl) rfl (Nat.le_of_ble_eq_true rfl) hq (fun v h1 hq1 => ?_) (fun E h1 hq1 => ?_)
  rotate_left
  ·
    rcases hq1 with hq1 | ⟨E1, e1, hq1⟩
    · exact nomatch hq1.1
    · obtain rfl := Sum.inr.inj e1; exact q_xout (fun z hz => nomatch hz) hq1
  rcases hq1 with hq1 | ⟨E1, e1, hq1⟩
  rotate_left
  · exact nomatch e1
  obtain ⟨hv, hq⟩ := hq1
  obtain rfl := Sum.inl.inj hv
  clear hv
  obtain ⟨h2, eh2⟩ : ∃ z, z = h1 := ⟨_, rfl⟩
  rw [← eh2] at hq ⊢
  clear eh2
  show mv_rq l G mX3_follow (d + 1) 5 [some (.ref u0), some (.ref u1), some (.int u2), some (.int u3), none, none, none, none] [] h2 _
  refine q_aload_n dX3_follow_5 rfl ?_
  obtain ⟨fs6, x6, f6, g6, hq⟩ := vgb_e hq
  refine q_getf (k := 0) (T := TX3) (C0 := RX3) (N := 3) (ci := 5) dX3_follow_6 fl_RX3_11 rfl uin_RX3 (by decide) rfl f6 g6 ?_
  refine q_iconst (v := 2) dX3_follow_9 (by decide) ?_
  refine q_iload_n dX3_follow_10 rfl ?_
  refine q_imul dX3_follow_11 ?_
  obtain ⟨n12, f12, x12, g12, i12, e12, hq⟩ := vab_e hq
  refine q_aald (t0 := 5) dX3_follow_12 (mv_ty hG (t := 5) rfl) g12 i12 ?_
  rw [e12]
  show mv_rq l G mX3_follow (d + 1) 13 [some (.ref u0), some (.ref u1), some (.int u2), some (.int u3), none, none, none, none] [.ref x12] h2 _
  refine q_astore dX3_follow_13 (Nat.le_of_ble_eq_true rfl) rfl ?_
  show mv_rq l G mX3_follow (d + 1) 15 [some (.ref u0), some (.ref u1), some (.int u2), some (.int u3), some (.ref x12), none, none, none] [] h2 _
  refine q_aload_n dX3_follow_15 rfl ?_
  obtain ⟨fs16, x16, f16, g16, hq⟩ := vgb_e hq
  refine q_getf (k := 0) (T := TX3) (C0 := RX3) (N := 3) (ci := 5) dX3_follow_16 fl_RX3_11 rfl uin_RX3 (by decide) rfl f16 g16 ?_
  refine q_iconst (v := 2) dX3_follow_19 (by decide) ?_
  refine q_iload_n dX3_follow_20 rfl ?_
  refine q_imul dX3_follow_21 ?_
  refine q_iconst (v := 1) dX3_follow_22 (by decide) ?_
  refine q_iadd dX3_follow_23 ?_
  obtain ⟨n24, f24, x24, g24, i24, e24, hq⟩ := vab_e hq
  refine q_aald (t0 := 5) dX3_follow_24 (mv_ty hG (t := 5) rfl) g24 i24 ?_
  rw [e24]
  show mv_rq l G mX3_follow (d + 1) 25 [some (.ref u0), some (.ref u1), some (.int u2), some (.int u3), some (.ref x12), none, none, none] [.ref x24] h2 _
  refine q_astore dX3_follow_25 (Nat.le_of_ble_eq_true rfl) rfl ?_
  show mv_rq l G mX3_follow (d + 1) 27 [some (.ref u0), some (.ref u1), some (.int u2), some (.int u3), some (.ref x12), some (.ref x24), none, none] [] h2 _
  refine q_aload dX3_follow_27 rfl ?_
  obtain ⟨⟨fs29, f29⟩, hq⟩ := vob_e hq
  refine q_cV (Y := mX6_clear) (As := []) (st := []) (b := x12) (ci := 8) vc_X6_clear dX3_follow_29 ml_RX3_41 rfl f29 rfl (Nat.le_of_ble_eq_true rfl) rfl (Nat.le_of_ble_eq_true rfl) hq (fun v h1 hq1 => ?_) (fun E h1 hq1 => ?_)
  rotate_left
  ·
    rcases hq1 with hq1 | ⟨E1, e1, hq1⟩
    · exact nomatch hq1.1
    · obtain rfl := Sum.inr.inj e1; exact q_xout (fun z hz => nomatch hz) hq1
  rcases hq1 with hq1 | ⟨E1, e1, hq1⟩
  rotate_left
  · exact nomatch e1
  obtain ⟨hv, hq⟩ := hq1
  obtain rfl := Sum.inl.inj hv
  clear hv
  obtain ⟨h29, eh29⟩ : ∃ z, z = h1 := ⟨_, rfl⟩
  rw [← eh29] at hq ⊢
  clear eh29
  show mv_rq l G mX3_follow (d + 1) 32 [some (.ref u0), some (.ref u1), some (.int u2), some (.int u3), some (.ref x12), some (.ref x24), none, none] [] h29 _
  refine q_aload dX3_follow_32 rfl ?_
  refine q_aload_n dX3_follow_34 rfl ?_
  obtain ⟨fs35, x35, f35, g35, hq⟩ := vgi_e hq
  refine q_getf (k := 0) (T := TX4) (C0 := RX4) (N := 5) (ci := 6) dX3_follow_35 fl_RX3_44 rfl uin_RX4 (by decide) rfl f35 g35 ?_
  refine q_if_eq (tgt := 45) dX3_follow_38 (by decide) (fun c38 => ?_) (fun c38 => ?_)
  ·
    have hq := vif_t hq c38
    refine q_iload_n dX3_follow_45 rfl ?_
    exact mv_weak (A := [some (.ref u0), some (.ref u1), none, some (.int u3), some (.ref x12), some (.ref x24), none, none]) (by repeat' constructor) hq
  ·
    have hq := vif_f hq c38
    refine q_iconst (v := 0) dX3_follow_41 (by decide) ?_
    refine q_goto (tgt := 46) dX3_follow_42 (by decide) ?_
    exact mv_weak (A := [some (.ref u0), some (.ref u1), none, some (.int u3), some (.ref x12), some (.ref x24), none, none]) (by repeat' constructor) hq
def w_X3_follow_46 (l : Launch) (G : mv_G) (d : Nat) (u0 : Nat) (u1 : Nat) (u3 : Int32) (u4 : Nat) (u5 : Nat) (w0 : Int32) (w1 : Nat) (h : mv_H) (Q : mv_O → mv_H → Prop) : Prop :=
  vob h w1 8 (
  mv_rq l G mX6_add d 0 (mv_in [.ref w1, .int w0] 2) [] h (vU (fun E h1 => Q (.inr E) h1) (fun h46 =>
  vgr h46 u1 6 1 fun x50 =>
  mv_rq l G mX3_follow (d + 1) 55 [some (.ref u0), none, none, some (.int u3), some (.ref u4), some (.ref u5), some (va_rf x50), none] [] h46 Q)))
theorem v_X3_follow_46 {l : Launch} {G : mv_G} {d : Nat} {u0 : Nat} {u1 : Nat} {u3 : Int32} {u4 : Nat} {u5 : Nat} {w0 : Int32} {w1 : Nat} {h : mv_H} {Q : mv_O → mv_H → Prop} (hG : mv_ok G) (hq : w_X3_follow_46 l G d u0 u1 u3 u4 u5 w0 w1 h Q) : mv_rq l G mX3_follow (d + 1) 46 [some (.ref u0), some (.ref u1), none, some (.int u3), some (.ref u4), some (.ref u5), none, none] [.int w0, .ref w1] h Q := by
  unfold w_X3_follow_46 at hq
  obtain ⟨⟨fs46, f46⟩, hq⟩ := vob_e hq
  refine q_cV (Y := mX6_add) (As := [.int w0]) (st := []) (b := w1) (ci := 8) vc_X6_add dX3_follow_46 ml_RX3_50 rfl f46 rfl (Nat.le_of_ble_eq_true rfl) rfl (Nat.le_of_ble_eq_true rfl) hq (fun v h1 hq1 => ?_) (fun E h1 hq1 => ?_)
  rotate_left
  ·
    rcases hq1 with hq1 | ⟨E1, e1, hq1⟩
    · exact nomatch hq1.1
    · obtain rfl := Sum.inr.inj e1; exact q_xout (fun z hz => nomatch hz) hq1
  rcases hq1 with hq1 | ⟨E1, e1, hq1⟩
  rotate_left
  · exact nomatch e1
  obtain ⟨hv, hq⟩ := hq1
  obtain rfl := Sum.inl.inj hv
  clear hv
  obtain ⟨h46, eh46⟩ : ∃ z, z = h1 := ⟨_, rfl⟩
  rw [← eh46] at hq ⊢
  clear eh46
  show mv_rq l G mX3_follow (d + 1) 49 [some (.ref u0), some (.ref u1), none, some (.int u3), some (.ref u4), some (.ref u5), none, none] [] h46 _
  refine q_aload_n dX3_follow_49 rfl ?_
  obtain ⟨fs50, x50, f50, g50, hq⟩ := vgr_e hq
  refine q_getf (k := 1) (T := TX4) (C0 := RX4) (N := 5) (ci := 6) dX3_follow_50 fl_RX3_53 rfl uin_RX4 (by decide) rfl f50 g50 ?_
  refine q_astoreV dX3_follow_53 (Nat.le_of_ble_eq_true rfl) rfl ?_
  show mv_rq l G mX3_follow (d + 1) 55 [some (.ref u0), some (.ref u1), none, some (.int u3), some (.ref u4), some (.ref u5), some (va_rf x50), none] [] h46 _
  exact mv_weak (A := [some (.ref u0), none, none, some (.int u3), some (.ref u4), some (.ref u5), some (va_rf x50), none]) (by repeat' constructor) hq
def w_X3_follow_55 (l : Launch) (G : mv_G) (d : Nat) (u0 : Nat) (u3 : Int32) (u4 : Nat) (u5 : Nat) (u6 : Option Nat) (h : mv_H) (Q : mv_O → mv_H → Prop) : Prop :=
  vnl u6 (
    Q (.inl (some (.ref u4))) h) (fun a57 =>
    vob h u5 8 (
    mv_rq l G mX6_clear d 0 (mv_in [.ref u5] 1) [] h (vU (fun E h1 => Q (.inr E) h1) (fun h62 =>
    mv_rq l G mX3_follow (d + 1) 68 [some (.ref u0), none, none, some (.int u3), some (.ref u4), some (.ref u5), some (.ref a57), some (.int 0)] [] h62 Q))))
theorem v_X3_follow_55 {l : Launch} {G : mv_G} {d : Nat} {u0 : Nat} {u3 : Int32} {u4 : Nat} {u5 : Nat} {u6 : Option Nat} {h : mv_H} {Q : mv_O → mv_H → Prop} (hG : mv_ok G) (hq : w_X3_follow_55 l G d u0 u3 u4 u5 u6 h Q) : mv_rq l G mX3_follow (d + 1) 55 [some (.ref u0), none, none, some (.int u3), some (.ref u4), some (.ref u5), some (va_rf u6), none] [] h Q := by
  unfold w_X3_follow_55 at hq
  refine q_aloadV dX3_follow_55 rfl ?_
  refine q_ifnullV (tgt := 123) dX3_follow_57 (by decide) (fun c57 => ?_) (fun a57 c57 => ?_)
  ·
    have hz := vnl_n hq c57
    clear hq
    subst c57
    have hq := hz
    clear hz
    show mv_rq l G mX3_follow (d + 1) 123 [some (.ref u0), none, none, some (.int u3), some (.ref u4), some (.ref u5), some (.null), none] [] h _
    refine q_aload dX3_follow_123 rfl ?_
    exact q_aret (rt := (.object "TreePaths$Row")) dX3_follow_125 rfl (Or.inl ⟨_, rfl⟩) (Or.inr ⟨_, rfl⟩) hq
  ·
    have hz := vnl_s hq c57
    clear hq
    subst c57
    have hq := hz
    clear hz
    show mv_rq l G mX3_follow (d + 1) 60 [some (.ref u0), none, none, some (.int u3), some (.ref u4), some (.ref u5), some (.ref a57), none] [] h _
    refine q_aload dX3_follow_60 rfl ?_
    obtain ⟨⟨fs62, f62⟩, hq⟩ := vob_e hq
    refine q_cV (Y := mX6_clear) (As := []) (st := []) (b := u5) (ci := 8) vc_X6_clear dX3_follow_62 ml_RX3_41 rfl f62 rfl (Nat.le_of_ble_eq_true rfl) rfl (Nat.le_of_ble_eq_true rfl) hq (fun v h1 hq1 => ?_) (fun E h1 hq1 => ?_)
    rotate_left
    ·
      rcases hq1 with hq1 | ⟨E1, e1, hq1⟩
      · exact nomatch hq1.1
      · obtain rfl := Sum.inr.inj e1; exact q_xout (fun z hz => nomatch hz) hq1
    rcases hq1 with hq1 | ⟨E1, e1, hq1⟩
    rotate_left
    · exact nomatch e1
    obtain ⟨hv, hq⟩ := hq1
    obtain rfl := Sum.inl.inj hv
    clear hv
    obtain ⟨h62, eh62⟩ : ∃ z, z = h1 := ⟨_, rfl⟩
    rw [← eh62] at hq ⊢
    clear eh62
    show mv_rq l G mX3_follow (d + 1) 65 [some (.ref u0), none, none, some (.int u3), some (.ref u4), some (.ref u5), some (.ref a57), none] [] h62 _
    refine q_iconst (v := 0) dX3_follow_65 (by decide) ?_
    refine q_istore dX3_follow_66 (Nat.le_of_ble_eq_true rfl) rfl ?_
    show mv_rq l G mX3_follow (d + 1) 68 [some (.ref u0), none, none, some (.int u3), some (.ref u4), some (.ref u5), some (.ref a57), some (.int 0)] [] h62 _
    exact mv_weak (A := [some (.ref u0), none, none, some (.int u3), some (.ref u4), some (.ref u5), some (.ref a57), some (.int 0)]) (by repeat' constructor) hq
def w_X3_follow_68 (l : Launch) (G : mv_G) (d : Nat) (u0 : Nat) (u3 : Int32) (u4 : Nat) (u5 : Nat) (u6 : Option Nat) (u7 : Int32) (h : mv_H) (Q : mv_O → mv_H → Prop) : Prop :=
  vgi h u4 8 1 fun x72 =>
  vif (x72 ≤ u7) (
    vnn u6 fun a115 =>
    vgr h a115 9 3 fun x115 =>
    mv_rq l G mX3_follow (d + 1) 55 [some (.ref u0), none, none, some (.int u3), some (.ref u5), some (.ref u4), some (va_rf x115), none] [] h Q) (
    vgb h u4 8 0 fun x81 =>
    vai G h x81 1 u7 fun x86 =>
    vob h u0 5 (
    mv_rq l G mX3_goFrom d 0 (mv_in [.ref u0, .int x86, va_rf u6, .ref u5, .int u3] 8) [] h (vU (fun E h1 => Q (.inr E) h1) (fun h92 =>
    mv_rq l G mX3_follow (d + 1) 68 [some (.ref u0), none, none, some (.int u3), some (.ref u4), some (.ref u5), some (va_rf u6), some (.int (u7 + 1))] [] h92 Q))))
theorem v_X3_follow_68 {l : Launch} {G : mv_G} {d : Nat} {u0 : Nat} {u3 : Int32} {u4 : Nat} {u5 : Nat} {u6 : Option Nat} {u7 : Int32} {h : mv_H} {Q : mv_O → mv_H → Prop} (hG : mv_ok G) (hq : w_X3_follow_68 l G d u0 u3 u4 u5 u6 u7 h Q) : mv_rq l G mX3_follow (d + 1) 68 [some (.ref u0), none, none, some (.int u3), some (.ref u4), some (.ref u5), some (va_rf u6), some (.int u7)] [] h Q := by
  unfold w_X3_follow_68 at hq
  refine q_iload dX3_follow_68 rfl ?_
  refine q_aload dX3_follow_70 rfl ?_
  obtain ⟨fs72, x72, f72, g72, hq⟩ := vgi_e hq
  refine q_getf (k := 1) (T := TX6) (C0 := RX6) (N := 2) (ci := 8) dX3_follow_72 fl_RX3_57 rfl uin_RX6 (by decide) rfl f72 g72 ?_
  refine q_icmp_ge (tgt := 101) dX3_follow_75 (by decide) (fun c75 => ?_) (fun c75 => ?_)
  ·
    have hq := vif_t hq c75
    refine q_aload dX3_follow_101 rfl ?_
    refine q_astore dX3_follow_103 (Nat.le_of_ble_eq_true rfl) (by cases u6 <;> rfl) ?_
    show mv_rq l G mX3_follow (d + 1) 105 [some (.ref u0), none, none, some (.int u3), some (.ref u4), some (.ref u5), some (va_rf u6), some (.ref u4)] [] h _
    refine q_aload dX3_follow_105 rfl ?_
    refine q_astore dX3_follow_107 (Nat.le_of_ble_eq_true rfl) rfl ?_
    show mv_rq l G mX3_follow (d + 1) 109 [some (.ref u0), none, none, some (.int u3), some (.ref u5), some (.ref u5), some (va_rf u6), some (.ref u4)] [] h _
    refine q_aload dX3_follow_109 rfl ?_
    refine q_astore dX3_follow_111 (Nat.le_of_ble_eq_true rfl) rfl ?_
    show mv_rq l G mX3_follow (d + 1) 113 [some (.ref u0), none, none, some (.int u3), some (.ref u5), some (.ref u4), some (va_rf u6), some (.ref u4)] [] h _
    refine q_aloadV dX3_follow_113 rfl ?_
    obtain ⟨a115, ea115, hz⟩ := vnn_e hq
    clear hq
    subst ea115
    have hq := hz
    clear hz
    show mv_rq l G mX3_follow (d + 1) 115 [some (.ref u0), none, none, some (.int u3), some (.ref u5), some (.ref u4), some (.ref a115), some (.ref u4)] [.ref a115] h _
    obtain ⟨fs115, x115, f115, g115, hq⟩ := vgr_e hq
    refine q_getf (k := 3) (T := TX7) (C0 := RX7) (N := 4) (ci := 9) dX3_follow_115 fl_RX3_68 rfl uin_RX7 (by decide) rfl f115 g115 ?_
    refine q_astoreV dX3_follow_118 (Nat.le_of_ble_eq_true rfl) rfl ?_
    show mv_rq l G mX3_follow (d + 1) 120 [some (.ref u0), none, none, some (.int u3), some (.ref u5), some (.ref u4), some (va_rf x115), some (.ref u4)] [] h _
    refine q_goto (tgt := 55) dX3_follow_120 (by decide) ?_
    exact mv_weak (A := [some (.ref u0), none, none, some (.int u3), some (.ref u5), some (.ref u4), some (va_rf x115), none]) (by repeat' constructor) hq
  ·
    have hq := vif_f hq c75
    refine q_aload_n dX3_follow_78 rfl ?_
    refine q_aload dX3_follow_79 rfl ?_
    obtain ⟨fs81, x81, f81, g81, hq⟩ := vgb_e hq
    refine q_getf (k := 0) (T := TX6) (C0 := RX6) (N := 2) (ci := 8) dX3_follow_81 fl_RX3_60 rfl uin_RX6 (by decide) rfl f81 g81 ?_
    refine q_iload dX3_follow_84 rfl ?_
    obtain ⟨n86, f86, x86, g86, i86, e86, hq⟩ := vai_e hq
    refine q_iald (t0 := 1) dX3_follow_86 (mv_tI hG) g86 i86 ?_
    rw [← e86]
    show mv_rq l G mX3_follow (d + 1) 87 [some (.ref u0), none, none, some (.int u3), some (.ref u4), some (.ref u5), some (va_rf u6), some (.int u7)] [.int x86, .ref u0] h _
    refine q_aloadV dX3_follow_87 rfl ?_
    refine q_aload dX3_follow_89 rfl ?_
    refine q_iload_n dX3_follow_91 rfl ?_
    obtain ⟨⟨fs92, f92⟩, hq⟩ := vob_e hq
    refine q_cV (Y := mX3_goFrom) (As := [.int x86, va_rf u6, .ref u5, .int u3]) (st := []) (b := u0) (ci := 5) vc_X3_goFrom dX3_follow_92 ml_RX3_64 rfl f92 rfl (by cases u6 <;> exact (Nat.le_of_ble_eq_true rfl)) rfl (by cases u6 <;> exact (Nat.le_of_ble_eq_true rfl)) hq (fun v h1 hq1 => ?_) (fun E h1 hq1 => ?_)
    rotate_left
    ·
      rcases hq1 with hq1 | ⟨E1, e1, hq1⟩
      · exact nomatch hq1.1
      · obtain rfl := Sum.inr.inj e1; exact q_xout (fun z hz => nomatch hz) hq1
    rcases hq1 with hq1 | ⟨E1, e1, hq1⟩
    rotate_left
    · exact nomatch e1
    obtain ⟨hv, hq⟩ := hq1
    obtain rfl := Sum.inl.inj hv
    clear hv
    obtain ⟨h92, eh92⟩ : ∃ z, z = h1 := ⟨_, rfl⟩
    rw [← eh92] at hq ⊢
    clear eh92
    show mv_rq l G mX3_follow (d + 1) 95 [some (.ref u0), none, none, some (.int u3), some (.ref u4), some (.ref u5), some (va_rf u6), some (.int u7)] [] h92 _
    refine q_iinc dX3_follow_95 rfl (by cases u6 <;> rfl) ?_
    show mv_rq l G mX3_follow (d + 1) 98 [some (.ref u0), none, none, some (.int u3), some (.ref u4), some (.ref u5), some (va_rf u6), some (.int (u7 + 1))] [] h92 _
    refine q_goto (tgt := 68) dX3_follow_98 (by decide) ?_
    exact mv_weak (A := [some (.ref u0), none, none, some (.int u3), some (.ref u4), some (.ref u5), some (va_rf u6), some (.int (u7 + 1))]) (by repeat' constructor) hq
def w_X3_goFrom (l : Launch) (G : mv_G) (d : Nat) (u0 : Nat) (u1 : Int32) (u2 : Nat) (u3 : Nat) (u4 : Int32) (h : mv_H) (Q : mv_O → mv_H → Prop) : Prop :=
  vgi h u2 9 0 fun x1 =>
  vif (x1 = 0) (
    mv_rq l G mX3_goFrom (d + 1) 25 [some (.ref u0), some (.int u1), some (.ref u2), some (.ref u3), some (.int u4), none, none, none] [.int (u1 + 1)] h Q) (
    vgb h u0 5 1 fun x8 =>
    vgb h x8 3 0 fun x11 =>
    vab G h x11 4 u1 fun x15 =>
    vgi h x15 13 7 fun x16 =>
    mv_rq l G mX3_goFrom (d + 1) 25 [some (.ref u0), some (.int u1), some (.ref u2), some (.ref u3), some (.int u4), none, none, none] [.int x16] h Q)
theorem v_X3_goFrom {l : Launch} {G : mv_G} {d : Nat} {u0 : Nat} {u1 : Int32} {u2 : Nat} {u3 : Nat} {u4 : Int32} {h : mv_H} {Q : mv_O → mv_H → Prop} (hG : mv_ok G) (hX : mv_okX l G) (hd : 6 ≤ d) (hq : w_X3_goFrom l G d u0 u1 u2 u3 u4 h Q) : mv_rq l G mX3_goFrom (d + 1) 0 (mv_in [.ref u0, .int u1, .ref u2, .ref u3, .int u4] 8) [] h Q := by
  unfold w_X3_goFrom at hq
  show mv_rq l G mX3_goFrom (d + 1) 0 [some (.ref u0), some (.int u1), some (.ref u2), some (.ref u3), some (.int u4), none, none, none] [] h _
  refine q_aload_n dX3_goFrom_0 rfl ?_
  obtain ⟨fs1, x1, f1, g1, hq⟩ := vgi_e hq
  refine q_getf (k := 0) (T := TX7) (C0 := RX7) (N := 4) (ci := 9) dX3_goFrom_1 fl_RX3_73 rfl uin_RX7 (by decide) rfl f1 g1 ?_
  refine q_if_eq (tgt := 22) dX3_goFrom_4 (by decide) (fun c4 => ?_) (fun c4 => ?_)
  ·
    have hq := vif_t hq c4
    refine q_iload_n dX3_goFrom_22 rfl ?_
    refine q_iconst (v := 1) dX3_goFrom_23 (by decide) ?_
    refine q_iadd dX3_goFrom_24 ?_
    exact mv_weak (A := [some (.ref u0), some (.int u1), some (.ref u2), some (.ref u3), some (.int u4), none, none, none]) (by repeat' constructor) hq
  ·
    have hq := vif_f hq c4
    refine q_aload_n dX3_goFrom_7 rfl ?_
    obtain ⟨fs8, x8, f8, g8, hq⟩ := vgb_e hq
    refine q_getf (k := 1) (T := TX3) (C0 := RX3) (N := 3) (ci := 5) dX3_goFrom_8 fl_RX3_17 rfl uin_RX3 (by decide) rfl f8 g8 ?_
    obtain ⟨fs11, x11, f11, g11, hq⟩ := vgb_e hq
    refine q_getf (k := 0) (T := TX1) (C0 := RX1) (N := 4) (ci := 3) dX3_goFrom_11 fl_RX3_76 rfl uin_RX1 (by decide) rfl f11 g11 ?_
    refine q_iload_n dX3_goFrom_14 rfl ?_
    obtain ⟨n15, f15, x15, g15, i15, e15, hq⟩ := vab_e hq
    refine q_aald (t0 := 4) dX3_goFrom_15 (mv_ty hG (t := 4) rfl) g15 i15 ?_
    rw [e15]
    show mv_rq l G mX3_goFrom (d + 1) 16 [some (.ref u0), some (.int u1), some (.ref u2), some (.ref u3), some (.int u4), none, none, none] [.ref x15] h _
    obtain ⟨fs16, x16, f16, g16, hq⟩ := vgi_e hq
    refine q_getf (k := 7) (T := TX11) (C0 := RX11) (N := 10) (ci := 13) dX3_goFrom_16 fl_RX3_81 rfl uin_RX11 (by decide) rfl f16 g16 ?_
    refine q_goto (tgt := 25) dX3_goFrom_19 (by decide) ?_
    exact mv_weak (A := [some (.ref u0), some (.int u1), some (.ref u2), some (.ref u3), some (.int u4), none, none, none]) (by repeat' constructor) hq
def w_X3_goFrom_25 (l : Launch) (G : mv_G) (d : Nat) (u0 : Nat) (u1 : Int32) (u2 : Nat) (u3 : Nat) (u4 : Int32) (w0 : Int32) (h : mv_H) (Q : mv_O → mv_H → Prop) : Prop :=
  vgi h u0 5 2 fun x29 =>
  vpu G h u0 5 2 (.int (x29 + (w0 - u1))) fun h37 =>
  vgi h37 u0 5 2 fun x41 =>
  vif (x41 ≤ 1000000) (
    mv_rq l G mX3_goFrom (d + 1) 62 [some (.ref u0), none, some (.ref u2), some (.ref u3), some (.int u4), some (.int w0), some (.int u1), none] [] h37 Q) (
    Q (.inr ("java/lang/UnsupportedOperationException", h37.1)) (thr h37))
theorem v_X3_goFrom_25 {l : Launch} {G : mv_G} {d : Nat} {u0 : Nat} {u1 : Int32} {u2 : Nat} {u3 : Nat} {u4 : Int32} {w0 : Int32} {h : mv_H} {Q : mv_O → mv_H → Prop} (hG : mv_ok G) (hX : mv_okX l G) (hd : 6 ≤ d) (hq : w_X3_goFrom_25 l G d u0 u1 u2 u3 u4 w0 h Q) : mv_rq l G mX3_goFrom (d + 1) 25 [some (.ref u0), some (.int u1), some (.ref u2), some (.ref u3), some (.int u4), none, none, none] [.int w0] h Q := by
  unfold w_X3_goFrom_25 at hq
  refine q_istore dX3_goFrom_25 (Nat.le_of_ble_eq_true rfl) rfl ?_
  show mv_rq l G mX3_goFrom (d + 1) 27 [some (.ref u0), some (.int u1), some (.ref u2), some (.ref u3), some (.int u4), some (.int w0), none, none] [] h _
  refine q_aload_n dX3_goFrom_27 rfl ?_
  refine q_dup dX3_goFrom_28 rfl ?_
  obtain ⟨fs29, x29, f29, g29, hq⟩ := vgi_e hq
  refine q_getf (k := 2) (T := TX3) (C0 := RX3) (N := 3) (ci := 5) dX3_goFrom_29 fl_RX3_21 rfl uin_RX3 (by decide) rfl f29 g29 ?_
  refine q_iload dX3_goFrom_32 rfl ?_
  refine q_iload_n dX3_goFrom_34 rfl ?_
  refine q_isub dX3_goFrom_35 ?_
  refine q_iadd dX3_goFrom_36 ?_
  obtain ⟨fs37, h37, f37, b37, l37, e37, hq⟩ := vpu_e hq
  refine q_putf (k := 2) (T := TX3) (C0 := RX3) (N := 3) (ci := 5) (ty := .int) tyX3 tyX3_ok nmX3 dX3_goFrom_37 fl_RX3_21 rfl uin_RX3 (by decide) rfl rfl (by decide +kernel) rfl rfl b37 f37 l37 ?_
  rw [← e37]
  show mv_rq l G mX3_goFrom (d + 1) 40 [some (.ref u0), some (.int u1), some (.ref u2), some (.ref u3), some (.int u4), some (.int w0), none, none] [] h37 _
  refine q_aload_n dX3_goFrom_40 rfl ?_
  obtain ⟨fs41, x41, f41, g41, hq⟩ := vgi_e hq
  refine q_getf (k := 2) (T := TX3) (C0 := RX3) (N := 3) (ci := 5) dX3_goFrom_41 fl_RX3_21 rfl uin_RX3 (by decide) rfl f41 g41 ?_
  refine q_ldc dX3_goFrom_44 ct_RX3_86 ?_
  refine q_icmp_le (tgt := 59) dX3_goFrom_46 (by decide) (fun c46 => ?_) (fun c46 => ?_)
  ·
    have hq := vif_t hq c46
    refine q_iload_n dX3_goFrom_59 rfl ?_
    refine q_istore dX3_goFrom_60 (Nat.le_of_ble_eq_true rfl) rfl ?_
    show mv_rq l G mX3_goFrom (d + 1) 62 [some (.ref u0), some (.int u1), some (.ref u2), some (.ref u3), some (.int u4), some (.int w0), some (.int u1), none] [] h37 _
    exact mv_weak (A := [some (.ref u0), none, some (.ref u2), some (.ref u3), some (.int u4), some (.int w0), some (.int u1), none]) (by repeat' constructor) hq
  ·
    have hq := vif_f hq c46
    exact q_throw (names := mv_exn) hX.1 (by decide +kernel) (by decide +kernel) cl_RX3_30 ini_UnsupportedOperationException (hX.2.2.2.2.2.2.2.2.2).choose_spec tx_RX3_34 hX.2.1 hX.2.2.1 rfl rfl dX3_goFrom_49 dX3_goFrom_52 dX3_goFrom_53 dX3_goFrom_55 dX3_goFrom_58 (by show 2 + 3 < _; omega) (Nat.le_of_ble_eq_true rfl) hq
def w_X3_goFrom_62 (l : Launch) (G : mv_G) (d : Nat) (u0 : Nat) (u2 : Nat) (u3 : Nat) (u4 : Int32) (u5 : Int32) (u6 : Int32) (h : mv_H) (Q : mv_O → mv_H → Prop) : Prop :=
  vif (u5 ≤ u6) (
    Q (.inl none) h) (
    vgr h u2 9 1 fun x70 =>
    mv_rq l G mX3_goFrom (d + 1) 75 [some (.ref u0), none, some (.ref u2), some (.ref u3), some (.int u4), some (.int u5), some (.int u6), some (va_rf x70)] [] h Q)
theorem v_X3_goFrom_62 {l : Launch} {G : mv_G} {d : Nat} {u0 : Nat} {u2 : Nat} {u3 : Nat} {u4 : Int32} {u5 : Int32} {u6 : Int32} {h : mv_H} {Q : mv_O → mv_H → Prop} (hG : mv_ok G) (hX : mv_okX l G) (hd : 6 ≤ d) (hq : w_X3_goFrom_62 l G d u0 u2 u3 u4 u5 u6 h Q) : mv_rq l G mX3_goFrom (d + 1) 62 [some (.ref u0), none, some (.ref u2), some (.ref u3), some (.int u4), some (.int u5), some (.int u6), none] [] h Q := by
  unfold w_X3_goFrom_62 at hq
  refine q_iload dX3_goFrom_62 rfl ?_
  refine q_iload dX3_goFrom_64 rfl ?_
  refine q_icmp_ge (tgt := 107) dX3_goFrom_66 (by decide) (fun c66 => ?_) (fun c66 => ?_)
  ·
    have hq := vif_t hq c66
    exact q_vret dX3_goFrom_107 rfl hq
  ·
    have hq := vif_f hq c66
    refine q_aload_n dX3_goFrom_69 rfl ?_
    obtain ⟨fs70, x70, f70, g70, hq⟩ := vgr_e hq
    refine q_getf (k := 1) (T := TX7) (C0 := RX7) (N := 4) (ci := 9) dX3_goFrom_70 fl_RX3_89 rfl uin_RX7 (by decide) rfl f70 g70 ?_
    refine q_astoreV dX3_goFrom_73 (Nat.le_of_ble_eq_true rfl) rfl ?_
    show mv_rq l G mX3_goFrom (d + 1) 75 [some (.ref u0), none, some (.ref u2), some (.ref u3), some (.int u4), some (.int u5), some (.int u6), some (va_rf x70)] [] h _
    exact mv_weak (A := [some (.ref u0), none, some (.ref u2), some (.ref u3), some (.int u4), some (.int u5), some (.int u6), some (va_rf x70)]) (by repeat' constructor) hq
def w_X3_goFrom_75 (l : Launch) (G : mv_G) (d : Nat) (u0 : Nat) (u2 : Nat) (u3 : Nat) (u4 : Int32) (u5 : Int32) (u6 : Int32) (u7 : Option Nat) (h : mv_H) (Q : mv_O → mv_H → Prop) : Prop :=
  vnl u7 (
    mv_rq l G mX3_goFrom (d + 1) 62 [some (.ref u0), none, some (.ref u2), some (.ref u3), some (.int u4), some (.int u5), some (.int (u6 + 1)), none] [] h Q) (fun a77 =>
    vob h u0 5 (
    mv_rq l G mX3_select d 0 (mv_in [.ref u0, .int u6, .ref a77, .ref u3, .int u4] 5) [] h (vU (fun E h1 => Q (.inr E) h1) (fun h88 =>
    vgr h88 a77 10 8 fun x93 =>
    mv_rq l G mX3_goFrom (d + 1) 75 [some (.ref u0), none, some (.ref u2), some (.ref u3), some (.int u4), some (.int u5), some (.int u6), some (va_rf x93)] [] h88 Q))))
theorem v_X3_goFrom_75 {l : Launch} {G : mv_G} {d : Nat} {u0 : Nat} {u2 : Nat} {u3 : Nat} {u4 : Int32} {u5 : Int32} {u6 : Int32} {u7 : Option Nat} {h : mv_H} {Q : mv_O → mv_H → Prop} (hG : mv_ok G) (hX : mv_okX l G) (hd : 6 ≤ d) (hq : w_X3_goFrom_75 l G d u0 u2 u3 u4 u5 u6 u7 h Q) : mv_rq l G mX3_goFrom (d + 1) 75 [some (.ref u0), none, some (.ref u2), some (.ref u3), some (.int u4), some (.int u5), some (.int u6), some (va_rf u7)] [] h Q := by
  unfold w_X3_goFrom_75 at hq
  refine q_aloadV dX3_goFrom_75 rfl ?_
  refine q_ifnullV (tgt := 101) dX3_goFrom_77 (by decide) (fun c77 => ?_) (fun a77 c77 => ?_)
  ·
    have hz := vnl_n hq c77
    clear hq
    subst c77
    have hq := hz
    clear hz
    show mv_rq l G mX3_goFrom (d + 1) 101 [some (.ref u0), none, some (.ref u2), some (.ref u3), some (.int u4), some (.int u5), some (.int u6), some (.null)] [] h _
    refine q_iinc dX3_goFrom_101 rfl rfl ?_
    show mv_rq l G mX3_goFrom (d + 1) 104 [some (.ref u0), none, some (.ref u2), some (.ref u3), some (.int u4), some (.int u5), some (.int (u6 + 1)), some (.null)] [] h _
    refine q_goto (tgt := 62) dX3_goFrom_104 (by decide) ?_
    exact mv_weak (A := [some (.ref u0), none, some (.ref u2), some (.ref u3), some (.int u4), some (.int u5), some (.int (u6 + 1)), none]) (by repeat' constructor) hq
  ·
    have hz := vnl_s hq c77
    clear hq
    subst c77
    have hq := hz
    clear hz
    show mv_rq l G mX3_goFrom (d + 1) 80 [some (.ref u0), none, some (.ref u2), some (.ref u3), some (.int u4), some (.int u5), some (.int u6), some (.ref a77)] [] h _
    refine q_aload_n dX3_goFrom_80 rfl ?_
    refine q_iload dX3_goFrom_81 rfl ?_
    refine q_aload dX3_goFrom_83 rfl ?_
    refine q_aload_n dX3_goFrom_85 rfl ?_
    refine q_iload dX3_goFrom_86 rfl ?_
    obtain ⟨⟨fs88, f88⟩, hq⟩ := vob_e hq
    refine q_cV (Y := mX3_select) (As := [.int u6, .ref a77, .ref u3, .int u4]) (st := []) (b := u0) (ci := 5) vc_X3_select dX3_goFrom_88 ml_RX3_92 rfl f88 rfl (Nat.le_of_ble_eq_true rfl) rfl (Nat.le_of_ble_eq_true rfl) hq (fun v h1 hq1 => ?_) (fun E h1 hq1 => ?_)
    rotate_left
    ·
      rcases hq1 with hq1 | ⟨E1, e1, hq1⟩
      · exact nomatch hq1.1
      · obtain rfl := Sum.inr.inj e1; exact q_xout (fun z hz => nomatch hz) hq1
    rcases hq1 with hq1 | ⟨E1, e1, hq1⟩
    rotate_left
    · exact nomatch e1
    obtain ⟨hv, hq⟩ := hq1
    obtain rfl := Sum.inl.inj hv
    clear hv
    obtain ⟨h88, eh88⟩ : ∃ z, z = h1 := ⟨_, rfl⟩
    rw [← eh88] at hq ⊢
    clear eh88
    show mv_rq l G mX3_goFrom (d + 1) 91 [some (.ref u0), none, some (.ref u2), some (.ref u3), some (.int u4), some (.int u5), some (.int u6), some (.ref a77)] [] h88 _
    refine q_aload dX3_goFrom_91 rfl ?_
    obtain ⟨fs93, x93, f93, g93, hq⟩ := vgr_e hq
    refine q_getf (k := 8) (T := TX8) (C0 := RX8) (N := 9) (ci := 10) dX3_goFrom_93 fl_RX3_96 rfl uin_RX8 (by decide) rfl f93 g93 ?_
    refine q_astoreV dX3_goFrom_96 (Nat.le_of_ble_eq_true rfl) rfl ?_
    show mv_rq l G mX3_goFrom (d + 1) 98 [some (.ref u0), none, some (.ref u2), some (.ref u3), some (.int u4), some (.int u5), some (.int u6), some (va_rf x93)] [] h88 _
    refine q_goto (tgt := 75) dX3_goFrom_98 (by decide) ?_
    exact mv_weak (A := [some (.ref u0), none, some (.ref u2), some (.ref u3), some (.int u4), some (.int u5), some (.int u6), some (va_rf x93)]) (by repeat' constructor) hq
def w_X3_select (l : Launch) (G : mv_G) (d : Nat) (u0 : Nat) (u1 : Int32) (u2 : Nat) (u3 : Nat) (u4 : Int32) (h : mv_H) (Q : mv_O → mv_H → Prop) : Prop :=
  vgi h u2 10 0 fun x1 =>
  vif (x1 = 0) (
    vgb h u0 5 1 fun x38 =>
    vgb h u2 10 1 fun x43 =>
    vob h x38 3 (
    mv_rq l G mX1_childNamed d 0 (mv_in [.ref x38, .int u1, .ref x43] 5) [] h (vI (fun E h1 => Q (.inr E) h1) (fun x46 h46 =>
    vob h46 u3 8 (
    mv_rq l G mX6_addIfThere d 0 (mv_in [.ref u3, .int x46] 2) [] h46 (vU (fun E h1 => Q (.inr E) h1) (fun h49 =>
    Q (.inl none) h49))))))) (
  vif (x1 = 1) (
    vob h u0 5 (
    mv_rq l G mX3_selectAll d 0 (mv_in [.ref u0, .int u1, .ref u3] 5) [] h (vU (fun E h1 => Q (.inr E) h1) (fun h58 =>
    Q (.inl none) h58)))) (
  vif (x1 = 2) (
    vgi h u2 10 2 fun x67 =>
    vob h u0 5 (
    mv_rq l G mX3_selectPlace d 0 (mv_in [.ref u0, .int u1, .int x67, .ref u3] 5) [] h (vU (fun E h1 => Q (.inr E) h1) (fun h71 =>
    Q (.inl none) h71)))) (
  vif (x1 = 3) (
    vob h u0 5 (
    mv_rq l G mX3_selectStretch d 0 (mv_in [.ref u0, .int u1, .ref u2, .ref u3] 10) [] h (vU (fun E h1 => Q (.inr E) h1) (fun h81 =>
    Q (.inl none) h81)))) (
    vgb h u2 10 7 fun x90 =>
    vob h u0 5 (
    mv_rq l G mX3_selectHolding d 0 (mv_in [.ref u0, .int u1, .ref x90, .ref u3, .int (u4 + 1)] 8) [] h (vU (fun E h1 => Q (.inr E) h1) (fun h98 =>
    Q (.inl none) h98)))))))
theorem v_X3_select {l : Launch} {G : mv_G} {d : Nat} {u0 : Nat} {u1 : Int32} {u2 : Nat} {u3 : Nat} {u4 : Int32} {h : mv_H} {Q : mv_O → mv_H → Prop} (hG : mv_ok G) (hq : w_X3_select l G d u0 u1 u2 u3 u4 h Q) : mv_rq l G mX3_select (d + 1) 0 (mv_in [.ref u0, .int u1, .ref u2, .ref u3, .int u4] 5) [] h Q := by
  unfold w_X3_select at hq
  show mv_rq l G mX3_select (d + 1) 0 [some (.ref u0), some (.int u1), some (.ref u2), some (.ref u3), some (.int u4)] [] h _
  refine q_aload_n dX3_select_0 rfl ?_
  obtain ⟨fs1, x1, f1, g1, hq⟩ := vgi_e hq
  refine q_getf (k := 0) (T := TX8) (C0 := RX8) (N := 9) (ci := 10) dX3_select_1 fl_RX3_100 rfl uin_RX8 (by decide) rfl f1 g1 ?_
  by_cases c4_0 : x1 = 0
  ·
    have hq := vif_t hq c4_0
    have t4 := md_ti (i := 0) (by decide) c4_0
    refine q_tableIn (off := 32) (tgt := 36) dX3_select_4 (by rw [t4]; decide) (by rw [t4]; decide) (by rw [t4]; rfl) (by decide) ?_
    refine q_aload_n dX3_select_36 rfl ?_
    refine q_aload_n dX3_select_37 rfl ?_
    obtain ⟨fs38, x38, f38, g38, hq⟩ := vgb_e hq
    refine q_getf (k := 1) (T := TX3) (C0 := RX3) (N := 3) (ci := 5) dX3_select_38 fl_RX3_17 rfl uin_RX3 (by decide) rfl f38 g38 ?_
    refine q_iload_n dX3_select_41 rfl ?_
    refine q_aload_n dX3_select_42 rfl ?_
    obtain ⟨fs43, x43, f43, g43, hq⟩ := vgb_e hq
    refine q_getf (k := 1) (T := TX8) (C0 := RX8) (N := 9) (ci := 10) dX3_select_43 fl_RX3_103 rfl uin_RX8 (by decide) rfl f43 g43 ?_
    obtain ⟨⟨fs46, f46⟩, hq⟩ := vob_e hq
    refine q_cV (Y := mX1_childNamed) (As := [.int u1, .ref x43]) (st := [.ref u3]) (b := x38) (ci := 3) vc_X1_childNamed dX3_select_46 ml_RX3_107 rfl f46 rfl (Nat.le_of_ble_eq_true rfl) rfl (Nat.le_of_ble_eq_true rfl) hq (fun v h1 hq1 => ?_) (fun E h1 hq1 => ?_)
    rotate_left
    ·
      rcases hq1 with hq1 | ⟨E1, e1, hq1⟩
      · obtain ⟨_, z, _⟩ := hq1; exact nomatch z
      · obtain rfl := Sum.inr.inj e1; exact q_xout (fun z hz => nomatch hz) hq1
    rcases hq1 with hq1 | ⟨E1, e1, hq1⟩
    rotate_left
    · exact nomatch e1
    obtain ⟨x46, hv, hq⟩ := hq1
    obtain rfl := Sum.inl.inj hv
    clear hv
    obtain ⟨h46, eh46⟩ : ∃ z, z = h1 := ⟨_, rfl⟩
    rw [← eh46] at hq ⊢
    clear eh46
    show mv_rq l G mX3_select (d + 1) 49 [some (.ref u0), some (.int u1), some (.ref u2), some (.ref u3), some (.int u4)] [.int x46, .ref u3] h46 _
    obtain ⟨⟨fs49, f49⟩, hq⟩ := vob_e hq
    refine q_cV (Y := mX6_addIfThere) (As := [.int x46]) (st := []) (b := u3) (ci := 8) vc_X6_addIfThere dX3_select_49 ml_RX3_111 rfl f49 rfl (Nat.le_of_ble_eq_true rfl) rfl (Nat.le_of_ble_eq_true rfl) hq (fun v h1 hq1 => ?_) (fun E h1 hq1 => ?_)
    rotate_left
    ·
      rcases hq1 with hq1 | ⟨E1, e1, hq1⟩
      · exact nomatch hq1.1
      · obtain rfl := Sum.inr.inj e1; exact q_xout (fun z hz => nomatch hz) hq1
    rcases hq1 with hq1 | ⟨E1, e1, hq1⟩
    rotate_left
    · exact nomatch e1
    obtain ⟨hv, hq⟩ := hq1
    obtain rfl := Sum.inl.inj hv
    clear hv
    obtain ⟨h49, eh49⟩ : ∃ z, z = h1 := ⟨_, rfl⟩
    rw [← eh49] at hq ⊢
    clear eh49
    show mv_rq l G mX3_select (d + 1) 52 [some (.ref u0), some (.int u1), some (.ref u2), some (.ref u3), some (.int u4)] [] h49 _
    refine q_goto (tgt := 101) dX3_select_52 (by decide) ?_
    exact q_vret dX3_select_101 rfl hq
  ·
    have hq := vif_f hq c4_0
    by_cases c4_1 : x1 = 1
    ·
      have hq := vif_t hq c4_1
      have t4 := md_ti (i := 1) (by decide) c4_1
      refine q_tableIn (off := 51) (tgt := 55) dX3_select_4 (by rw [t4]; decide) (by rw [t4]; decide) (by rw [t4]; rfl) (by decide) ?_
      refine q_aload_n dX3_select_55 rfl ?_
      refine q_iload_n dX3_select_56 rfl ?_
      refine q_aload_n dX3_select_57 rfl ?_
      obtain ⟨⟨fs58, f58⟩, hq⟩ := vob_e hq
      refine q_cV (Y := mX3_selectAll) (As := [.int u1, .ref u3]) (st := []) (b := u0) (ci := 5) vc_X3_selectAll dX3_select_58 ml_RX3_114 rfl f58 rfl (Nat.le_of_ble_eq_true rfl) rfl (Nat.le_of_ble_eq_true rfl) hq (fun v h1 hq1 => ?_) (fun E h1 hq1 => ?_)
      rotate_left
      ·
        rcases hq1 with hq1 | ⟨E1, e1, hq1⟩
        · exact nomatch hq1.1
        · obtain rfl := Sum.inr.inj e1; exact q_xout (fun z hz => nomatch hz) hq1
      rcases hq1 with hq1 | ⟨E1, e1, hq1⟩
      rotate_left
      · exact nomatch e1
      obtain ⟨hv, hq⟩ := hq1
      obtain rfl := Sum.inl.inj hv
      clear hv
      obtain ⟨h58, eh58⟩ : ∃ z, z = h1 := ⟨_, rfl⟩
      rw [← eh58] at hq ⊢
      clear eh58
      show mv_rq l G mX3_select (d + 1) 61 [some (.ref u0), some (.int u1), some (.ref u2), some (.ref u3), some (.int u4)] [] h58 _
      refine q_goto (tgt := 101) dX3_select_61 (by decide) ?_
      exact q_vret dX3_select_101 rfl hq
    ·
      have hq := vif_f hq c4_1
      by_cases c4_2 : x1 = 2
      ·
        have hq := vif_t hq c4_2
        have t4 := md_ti (i := 2) (by decide) c4_2
        refine q_tableIn (off := 60) (tgt := 64) dX3_select_4 (by rw [t4]; decide) (by rw [t4]; decide) (by rw [t4]; rfl) (by decide) ?_
        refine q_aload_n dX3_select_64 rfl ?_
        refine q_iload_n dX3_select_65 rfl ?_
        refine q_aload_n dX3_select_66 rfl ?_
        obtain ⟨fs67, x67, f67, g67, hq⟩ := vgi_e hq
        refine q_getf (k := 2) (T := TX8) (C0 := RX8) (N := 9) (ci := 10) dX3_select_67 fl_RX3_118 rfl uin_RX8 (by decide) rfl f67 g67 ?_
        refine q_aload_n dX3_select_70 rfl ?_
        obtain ⟨⟨fs71, f71⟩, hq⟩ := vob_e hq
        refine q_cV (Y := mX3_selectPlace) (As := [.int u1, .int x67, .ref u3]) (st := []) (b := u0) (ci := 5) vc_X3_selectPlace dX3_select_71 ml_RX3_121 rfl f71 rfl (Nat.le_of_ble_eq_true rfl) rfl (Nat.le_of_ble_eq_true rfl) hq (fun v h1 hq1 => ?_) (fun E h1 hq1 => ?_)
        rotate_left
        ·
          rcases hq1 with hq1 | ⟨E1, e1, hq1⟩
          · exact nomatch hq1.1
          · obtain rfl := Sum.inr.inj e1; exact q_xout (fun z hz => nomatch hz) hq1
        rcases hq1 with hq1 | ⟨E1, e1, hq1⟩
        rotate_left
        · exact nomatch e1
        obtain ⟨hv, hq⟩ := hq1
        obtain rfl := Sum.inl.inj hv
        clear hv
        obtain ⟨h71, eh71⟩ : ∃ z, z = h1 := ⟨_, rfl⟩
        rw [← eh71] at hq ⊢
        clear eh71
        show mv_rq l G mX3_select (d + 1) 74 [some (.ref u0), some (.int u1), some (.ref u2), some (.ref u3), some (.int u4)] [] h71 _
        refine q_goto (tgt := 101) dX3_select_74 (by decide) ?_
        exact q_vret dX3_select_101 rfl hq
      ·
        have hq := vif_f hq c4_2
        by_cases c4_3 : x1 = 3
        ·
          have hq := vif_t hq c4_3
          have t4 := md_ti (i := 3) (by decide) c4_3
          refine q_tableIn (off := 73) (tgt := 77) dX3_select_4 (by rw [t4]; decide) (by rw [t4]; decide) (by rw [t4]; rfl) (by decide) ?_
          refine q_aload_n dX3_select_77 rfl ?_
          refine q_iload_n dX3_select_78 rfl ?_
          refine q_aload_n dX3_select_79 rfl ?_
          refine q_aload_n dX3_select_80 rfl ?_
          obtain ⟨⟨fs81, f81⟩, hq⟩ := vob_e hq
          refine q_cV (Y := mX3_selectStretch) (As := [.int u1, .ref u2, .ref u3]) (st := []) (b := u0) (ci := 5) vc_X3_selectStretch dX3_select_81 ml_RX3_125 rfl f81 rfl (Nat.le_of_ble_eq_true rfl) rfl (Nat.le_of_ble_eq_true rfl) hq (fun v h1 hq1 => ?_) (fun E h1 hq1 => ?_)
          rotate_left
          ·
            rcases hq1 with hq1 | ⟨E1, e1, hq1⟩
            · exact nomatch hq1.1
            · obtain rfl := Sum.inr.inj e1; exact q_xout (fun z hz => nomatch hz) hq1
          rcases hq1 with hq1 | ⟨E1, e1, hq1⟩
          rotate_left
          · exact nomatch e1
          obtain ⟨hv, hq⟩ := hq1
          obtain rfl := Sum.inl.inj hv
          clear hv
          obtain ⟨h81, eh81⟩ : ∃ z, z = h1 := ⟨_, rfl⟩
          rw [← eh81] at hq ⊢
          clear eh81
          show mv_rq l G mX3_select (d + 1) 84 [some (.ref u0), some (.int u1), some (.ref u2), some (.ref u3), some (.int u4)] [] h81 _
          refine q_goto (tgt := 101) dX3_select_84 (by decide) ?_
          exact q_vret dX3_select_101 rfl hq
        ·
          have hq := vif_f hq c4_3
          refine q_tableOut (tgt := 87) dX3_select_4 (by have e0 := md_tn (i := 0) (by decide) c4_0; have e1 := md_tn (i := 1) (by decide) c4_1; have e2 := md_tn (i := 2) (by decide) c4_2; have e3 := md_tn (i := 3) (by decide) c4_3; omega) (by decide) ?_
          refine q_aload_n dX3_select_87 rfl ?_
          refine q_iload_n dX3_select_88 rfl ?_
          refine q_aload_n dX3_select_89 rfl ?_
          obtain ⟨fs90, x90, f90, g90, hq⟩ := vgb_e hq
          refine q_getf (k := 7) (T := TX8) (C0 := RX8) (N := 9) (ci := 10) dX3_select_90 fl_RX3_129 rfl uin_RX8 (by decide) rfl f90 g90 ?_
          refine q_aload_n dX3_select_93 rfl ?_
          refine q_iload dX3_select_94 rfl ?_
          refine q_iconst (v := 1) dX3_select_96 (by decide) ?_
          refine q_iadd dX3_select_97 ?_
          obtain ⟨⟨fs98, f98⟩, hq⟩ := vob_e hq
          refine q_cV (Y := mX3_selectHolding) (As := [.int u1, .ref x90, .ref u3, .int (u4 + 1)]) (st := []) (b := u0) (ci := 5) vc_X3_selectHolding dX3_select_98 ml_RX3_133 rfl f98 rfl (Nat.le_of_ble_eq_true rfl) rfl (Nat.le_of_ble_eq_true rfl) hq (fun v h1 hq1 => ?_) (fun E h1 hq1 => ?_)
          rotate_left
          ·
            rcases hq1 with hq1 | ⟨E1, e1, hq1⟩
            · exact nomatch hq1.1
            · obtain rfl := Sum.inr.inj e1; exact q_xout (fun z hz => nomatch hz) hq1
          rcases hq1 with hq1 | ⟨E1, e1, hq1⟩
          rotate_left
          · exact nomatch e1
          obtain ⟨hv, hq⟩ := hq1
          obtain rfl := Sum.inl.inj hv
          clear hv
          obtain ⟨h98, eh98⟩ : ∃ z, z = h1 := ⟨_, rfl⟩
          rw [← eh98] at hq ⊢
          clear eh98
          show mv_rq l G mX3_select (d + 1) 101 [some (.ref u0), some (.int u1), some (.ref u2), some (.ref u3), some (.int u4)] [] h98 _
          exact q_vret dX3_select_101 rfl hq
def w_X3_selectAll (l : Launch) (G : mv_G) (d : Nat) (u0 : Nat) (u1 : Int32) (u2 : Nat) (h : mv_H) (Q : mv_O → mv_H → Prop) : Prop :=
  vgb h u0 5 1 fun x1 =>
  vgb h x1 3 0 fun x4 =>
  vab G h x4 4 u1 fun x8 =>
  vob h x8 13 (
  mv_rq l G mX11_childCount d 0 (mv_in [.ref x8] 1) [] h (vI (fun E h1 => Q (.inr E) h1) (fun x9 h9 =>
  mv_rq l G mX3_selectAll (d + 1) 16 [some (.ref u0), some (.int u1), some (.ref u2), some (.int x9), some (.int 0)] [] h9 Q)))
theorem v_X3_selectAll {l : Launch} {G : mv_G} {d : Nat} {u0 : Nat} {u1 : Int32} {u2 : Nat} {h : mv_H} {Q : mv_O → mv_H → Prop} (hG : mv_ok G) (hq : w_X3_selectAll l G d u0 u1 u2 h Q) : mv_rq l G mX3_selectAll (d + 1) 0 (mv_in [.ref u0, .int u1, .ref u2] 5) [] h Q := by
  unfold w_X3_selectAll at hq
  show mv_rq l G mX3_selectAll (d + 1) 0 [some (.ref u0), some (.int u1), some (.ref u2), none, none] [] h _
  refine q_aload_n dX3_selectAll_0 rfl ?_
  obtain ⟨fs1, x1, f1, g1, hq⟩ := vgb_e hq
  refine q_getf (k := 1) (T := TX3) (C0 := RX3) (N := 3) (ci := 5) dX3_selectAll_1 fl_RX3_17 rfl uin_RX3 (by decide) rfl f1 g1 ?_
  obtain ⟨fs4, x4, f4, g4, hq⟩ := vgb_e hq
  refine q_getf (k := 0) (T := TX1) (C0 := RX1) (N := 4) (ci := 3) dX3_selectAll_4 fl_RX3_76 rfl uin_RX1 (by decide) rfl f4 g4 ?_
  refine q_iload_n dX3_selectAll_7 rfl ?_
  obtain ⟨n8, f8, x8, g8, i8, e8, hq⟩ := vab_e hq
  refine q_aald (t0 := 4) dX3_selectAll_8 (mv_ty hG (t := 4) rfl) g8 i8 ?_
  rw [e8]
  show mv_rq l G mX3_selectAll (d + 1) 9 [some (.ref u0), some (.int u1), some (.ref u2), none, none] [.ref x8] h _
  obtain ⟨⟨fs9, f9⟩, hq⟩ := vob_e hq
  refine q_cV (Y := mX11_childCount) (As := []) (st := []) (b := x8) (ci := 13) vc_X11_childCount dX3_selectAll_9 ml_RX3_137 rfl f9 rfl (Nat.le_of_ble_eq_true rfl) rfl (Nat.le_of_ble_eq_true rfl) hq (fun v h1 hq1 => ?_) (fun E h1 hq1 => ?_)
  rotate_left
  ·
    rcases hq1 with hq1 | ⟨E1, e1, hq1⟩
    · obtain ⟨_, z, _⟩ := hq1; exact nomatch z
    · obtain rfl := Sum.inr.inj e1; exact q_xout (fun z hz => nomatch hz) hq1
  rcases hq1 with hq1 | ⟨E1, e1, hq1⟩
  rotate_left
  · exact nomatch e1
  obtain ⟨x9, hv, hq⟩ := hq1
  obtain rfl := Sum.inl.inj hv
  clear hv
  obtain ⟨h9, eh9⟩ : ∃ z, z = h1 := ⟨_, rfl⟩
  rw [← eh9] at hq ⊢
  clear eh9
  show mv_rq l G mX3_selectAll (d + 1) 12 [some (.ref u0), some (.int u1), some (.ref u2), none, none] [.int x9] h9 _
  refine q_istore_n dX3_selectAll_12 (Nat.le_of_ble_eq_true rfl) rfl ?_
  show mv_rq l G mX3_selectAll (d + 1) 13 [some (.ref u0), some (.int u1), some (.ref u2), some (.int x9), none] [] h9 _
  refine q_iconst (v := 0) dX3_selectAll_13 (by decide) ?_
  refine q_istore dX3_selectAll_14 (Nat.le_of_ble_eq_true rfl) rfl ?_
  show mv_rq l G mX3_selectAll (d + 1) 16 [some (.ref u0), some (.int u1), some (.ref u2), some (.int x9), some (.int 0)] [] h9 _
  exact mv_weak (A := [some (.ref u0), some (.int u1), some (.ref u2), some (.int x9), some (.int 0)]) (by repeat' constructor) hq
def w_X3_selectAll_16 (l : Launch) (G : mv_G) (d : Nat) (u0 : Nat) (u1 : Int32) (u2 : Nat) (u3 : Int32) (u4 : Int32) (h : mv_H) (Q : mv_O → mv_H → Prop) : Prop :=
  vif (u3 ≤ u4) (
    Q (.inl none) h) (
    vgb h u0 5 1 fun x24 =>
    vgb h x24 3 1 fun x27 =>
    vab G h x27 6 u1 fun x31 =>
    vai G h x31 1 u4 fun x34 =>
    vob h u2 8 (
    mv_rq l G mX6_add d 0 (mv_in [.ref u2, .int x34] 2) [] h (vU (fun E h1 => Q (.inr E) h1) (fun h35 =>
    mv_rq l G mX3_selectAll (d + 1) 16 [some (.ref u0), some (.int u1), some (.ref u2), some (.int u3), some (.int (u4 + 1))] [] h35 Q))))
theorem v_X3_selectAll_16 {l : Launch} {G : mv_G} {d : Nat} {u0 : Nat} {u1 : Int32} {u2 : Nat} {u3 : Int32} {u4 : Int32} {h : mv_H} {Q : mv_O → mv_H → Prop} (hG : mv_ok G) (hq : w_X3_selectAll_16 l G d u0 u1 u2 u3 u4 h Q) : mv_rq l G mX3_selectAll (d + 1) 16 [some (.ref u0), some (.int u1), some (.ref u2), some (.int u3), some (.int u4)] [] h Q := by
  unfold w_X3_selectAll_16 at hq
  refine q_iload dX3_selectAll_16 rfl ?_
  refine q_iload_n dX3_selectAll_18 rfl ?_
  refine q_icmp_ge (tgt := 44) dX3_selectAll_19 (by decide) (fun c19 => ?_) (fun c19 => ?_)
  ·
    have hq := vif_t hq c19
    exact q_vret dX3_selectAll_44 rfl hq
  ·
    have hq := vif_f hq c19
    refine q_aload_n dX3_selectAll_22 rfl ?_
    refine q_aload_n dX3_selectAll_23 rfl ?_
    obtain ⟨fs24, x24, f24, g24, hq⟩ := vgb_e hq
    refine q_getf (k := 1) (T := TX3) (C0 := RX3) (N := 3) (ci := 5) dX3_selectAll_24 fl_RX3_17 rfl uin_RX3 (by decide) rfl f24 g24 ?_
    obtain ⟨fs27, x27, f27, g27, hq⟩ := vgb_e hq
    refine q_getf (k := 1) (T := TX1) (C0 := RX1) (N := 4) (ci := 3) dX3_selectAll_27 fl_RX3_141 rfl uin_RX1 (by decide) rfl f27 g27 ?_
    refine q_iload_n dX3_selectAll_30 rfl ?_
    obtain ⟨n31, f31, x31, g31, i31, e31, hq⟩ := vab_e hq
    refine q_aaldA (t0 := 6) dX3_selectAll_31 (mv_ty hG (t := 6) rfl) g31 i31 ?_
    rw [e31]
    show mv_rq l G mX3_selectAll (d + 1) 32 [some (.ref u0), some (.int u1), some (.ref u2), some (.int u3), some (.int u4)] [.ref x31, .ref u2] h _
    refine q_iload dX3_selectAll_32 rfl ?_
    obtain ⟨n34, f34, x34, g34, i34, e34, hq⟩ := vai_e hq
    refine q_iald (t0 := 1) dX3_selectAll_34 (mv_tI hG) g34 i34 ?_
    rw [← e34]
    show mv_rq l G mX3_selectAll (d + 1) 35 [some (.ref u0), some (.int u1), some (.ref u2), some (.int u3), some (.int u4)] [.int x34, .ref u2] h _
    obtain ⟨⟨fs35, f35⟩, hq⟩ := vob_e hq
    refine q_cV (Y := mX6_add) (As := [.int x34]) (st := []) (b := u2) (ci := 8) vc_X6_add dX3_selectAll_35 ml_RX3_50 rfl f35 rfl (Nat.le_of_ble_eq_true rfl) rfl (Nat.le_of_ble_eq_true rfl) hq (fun v h1 hq1 => ?_) (fun E h1 hq1 => ?_)
    rotate_left
    ·
      rcases hq1 with hq1 | ⟨E1, e1, hq1⟩
      · exact nomatch hq1.1
      · obtain rfl := Sum.inr.inj e1; exact q_xout (fun z hz => nomatch hz) hq1
    rcases hq1 with hq1 | ⟨E1, e1, hq1⟩
    rotate_left
    · exact nomatch e1
    obtain ⟨hv, hq⟩ := hq1
    obtain rfl := Sum.inl.inj hv
    clear hv
    obtain ⟨h35, eh35⟩ : ∃ z, z = h1 := ⟨_, rfl⟩
    rw [← eh35] at hq ⊢
    clear eh35
    show mv_rq l G mX3_selectAll (d + 1) 38 [some (.ref u0), some (.int u1), some (.ref u2), some (.int u3), some (.int u4)] [] h35 _
    refine q_iinc dX3_selectAll_38 rfl rfl ?_
    show mv_rq l G mX3_selectAll (d + 1) 41 [some (.ref u0), some (.int u1), some (.ref u2), some (.int u3), some (.int (u4 + 1))] [] h35 _
    refine q_goto (tgt := 16) dX3_selectAll_41 (by decide) ?_
    exact mv_weak (A := [some (.ref u0), some (.int u1), some (.ref u2), some (.int u3), some (.int (u4 + 1))]) (by repeat' constructor) hq
def w_X3_selectPlace (l : Launch) (G : mv_G) (d : Nat) (u0 : Nat) (u1 : Int32) (u2 : Int32) (u3 : Nat) (h : mv_H) (Q : mv_O → mv_H → Prop) : Prop :=
  vgb h u0 5 1 fun x1 =>
  vgb h x1 3 0 fun x4 =>
  vab G h x4 4 u1 fun x8 =>
  vgi h x8 13 0 fun x13 =>
  vif (x13 = 5) (
    vgb h u0 5 1 fun x22 =>
    vgi h x8 13 1 fun x29 =>
    mv_rq l G mX3_fromBegin d 0 (mv_in [.int u2, .int x29] 2) [] h (vI (fun E h1 => Q (.inr E) h1) (fun x32 h32 =>
    vob h32 x22 3 (
    mv_rq l G mX1_childAt d 0 (mv_in [.ref x22, .int u1, .int x32] 3) [] h32 (vI (fun E h1 => Q (.inr E) h1) (fun x35 h35 =>
    vob h35 u3 8 (
    mv_rq l G mX6_addIfThere d 0 (mv_in [.ref u3, .int x35] 2) [] h35 (vU (fun E h1 => Q (.inr E) h1) (fun h38 =>
    Q (.inl none) h38))))))))) (
    Q (.inl none) h)
theorem v_X3_selectPlace {l : Launch} {G : mv_G} {d : Nat} {u0 : Nat} {u1 : Int32} {u2 : Int32} {u3 : Nat} {h : mv_H} {Q : mv_O → mv_H → Prop} (hG : mv_ok G) (hq : w_X3_selectPlace l G d u0 u1 u2 u3 h Q) : mv_rq l G mX3_selectPlace (d + 1) 0 (mv_in [.ref u0, .int u1, .int u2, .ref u3] 5) [] h Q := by
  unfold w_X3_selectPlace at hq
  show mv_rq l G mX3_selectPlace (d + 1) 0 [some (.ref u0), some (.int u1), some (.int u2), some (.ref u3), none] [] h _
  refine q_aload_n dX3_selectPlace_0 rfl ?_
  obtain ⟨fs1, x1, f1, g1, hq⟩ := vgb_e hq
  refine q_getf (k := 1) (T := TX3) (C0 := RX3) (N := 3) (ci := 5) dX3_selectPlace_1 fl_RX3_17 rfl uin_RX3 (by decide) rfl f1 g1 ?_
  obtain ⟨fs4, x4, f4, g4, hq⟩ := vgb_e hq
  refine q_getf (k := 0) (T := TX1) (C0 := RX1) (N := 4) (ci := 3) dX3_selectPlace_4 fl_RX3_76 rfl uin_RX1 (by decide) rfl f4 g4 ?_
  refine q_iload_n dX3_selectPlace_7 rfl ?_
  obtain ⟨n8, f8, x8, g8, i8, e8, hq⟩ := vab_e hq
  refine q_aald (t0 := 4) dX3_selectPlace_8 (mv_ty hG (t := 4) rfl) g8 i8 ?_
  rw [e8]
  show mv_rq l G mX3_selectPlace (d + 1) 9 [some (.ref u0), some (.int u1), some (.int u2), some (.ref u3), none] [.ref x8] h _
  refine q_astore dX3_selectPlace_9 (Nat.le_of_ble_eq_true rfl) rfl ?_
  show mv_rq l G mX3_selectPlace (d + 1) 11 [some (.ref u0), some (.int u1), some (.int u2), some (.ref u3), some (.ref x8)] [] h _
  refine q_aload dX3_selectPlace_11 rfl ?_
  obtain ⟨fs13, x13, f13, g13, hq⟩ := vgi_e hq
  refine q_getf (k := 0) (T := TX11) (C0 := RX11) (N := 10) (ci := 13) dX3_selectPlace_13 fl_RX3_145 rfl uin_RX11 (by decide) rfl f13 g13 ?_
  refine q_iconst (v := 5) dX3_selectPlace_16 (by decide) ?_
  refine q_icmp_ne (tgt := 41) dX3_selectPlace_17 (by decide) (fun c17 => ?_) (fun c17 => ?_)
  ·
    have hq := vif_f hq c17
    exact q_vret dX3_selectPlace_41 rfl hq
  ·
    have hq := vif_t hq c17
    refine q_aload_n dX3_selectPlace_20 rfl ?_
    refine q_aload_n dX3_selectPlace_21 rfl ?_
    obtain ⟨fs22, x22, f22, g22, hq⟩ := vgb_e hq
    refine q_getf (k := 1) (T := TX3) (C0 := RX3) (N := 3) (ci := 5) dX3_selectPlace_22 fl_RX3_17 rfl uin_RX3 (by decide) rfl f22 g22 ?_
    refine q_iload_n dX3_selectPlace_25 rfl ?_
    refine q_iload_n dX3_selectPlace_26 rfl ?_
    refine q_aload dX3_selectPlace_27 rfl ?_
    obtain ⟨fs29, x29, f29, g29, hq⟩ := vgi_e hq
    refine q_getf (k := 1) (T := TX11) (C0 := RX11) (N := 10) (ci := 13) dX3_selectPlace_29 fl_RX3_146 rfl uin_RX11 (by decide) rfl f29 g29 ?_
    refine q_cS (Y := mX3_fromBegin) (As := [.int u2, .int x29]) (st := [.int u1, .ref x22, .ref u3]) sc_X3_fromBegin dX3_selectPlace_32 ml_RX3_149 rfl (Nat.le_of_ble_eq_true rfl) rfl (Nat.le_of_ble_eq_true rfl) hq (fun v h1 hq1 => ?_) (fun E h1 hq1 => ?_)
    rotate_left
    ·
      rcases hq1 with hq1 | ⟨E1, e1, hq1⟩
      · obtain ⟨_, z, _⟩ := hq1; exact nomatch z
      · obtain rfl := Sum.inr.inj e1; exact q_xout (fun z hz => nomatch hz) hq1
    rcases hq1 with hq1 | ⟨E1, e1, hq1⟩
    rotate_left
    · exact nomatch e1
    obtain ⟨x32, hv, hq⟩ := hq1
    obtain rfl := Sum.inl.inj hv
    clear hv
    obtain ⟨h32, eh32⟩ : ∃ z, z = h1 := ⟨_, rfl⟩
    rw [← eh32] at hq ⊢
    clear eh32
    show mv_rq l G mX3_selectPlace (d + 1) 35 [some (.ref u0), some (.int u1), some (.int u2), some (.ref u3), some (.ref x8)] [.int x32, .int u1, .ref x22, .ref u3] h32 _
    obtain ⟨⟨fs35, f35⟩, hq⟩ := vob_e hq
    refine q_cV (Y := mX1_childAt) (As := [.int u1, .int x32]) (st := [.ref u3]) (b := x22) (ci := 3) vc_X1_childAt dX3_selectPlace_35 ml_RX3_153 rfl f35 rfl (Nat.le_of_ble_eq_true rfl) rfl (Nat.le_of_ble_eq_true rfl) hq (fun v h1 hq1 => ?_) (fun E h1 hq1 => ?_)
    rotate_left
    ·
      rcases hq1 with hq1 | ⟨E1, e1, hq1⟩
      · obtain ⟨_, z, _⟩ := hq1; exact nomatch z
      · obtain rfl := Sum.inr.inj e1; exact q_xout (fun z hz => nomatch hz) hq1
    rcases hq1 with hq1 | ⟨E1, e1, hq1⟩
    rotate_left
    · exact nomatch e1
    obtain ⟨x35, hv, hq⟩ := hq1
    obtain rfl := Sum.inl.inj hv
    clear hv
    obtain ⟨h35, eh35⟩ : ∃ z, z = h1 := ⟨_, rfl⟩
    rw [← eh35] at hq ⊢
    clear eh35
    show mv_rq l G mX3_selectPlace (d + 1) 38 [some (.ref u0), some (.int u1), some (.int u2), some (.ref u3), some (.ref x8)] [.int x35, .ref u3] h35 _
    obtain ⟨⟨fs38, f38⟩, hq⟩ := vob_e hq
    refine q_cV (Y := mX6_addIfThere) (As := [.int x35]) (st := []) (b := u3) (ci := 8) vc_X6_addIfThere dX3_selectPlace_38 ml_RX3_111 rfl f38 rfl (Nat.le_of_ble_eq_true rfl) rfl (Nat.le_of_ble_eq_true rfl) hq (fun v h1 hq1 => ?_) (fun E h1 hq1 => ?_)
    rotate_left
    ·
      rcases hq1 with hq1 | ⟨E1, e1, hq1⟩
      · exact nomatch hq1.1
      · obtain rfl := Sum.inr.inj e1; exact q_xout (fun z hz => nomatch hz) hq1
    rcases hq1 with hq1 | ⟨E1, e1, hq1⟩
    rotate_left
    · exact nomatch e1
    obtain ⟨hv, hq⟩ := hq1
    obtain rfl := Sum.inl.inj hv
    clear hv
    obtain ⟨h38, eh38⟩ : ∃ z, z = h1 := ⟨_, rfl⟩
    rw [← eh38] at hq ⊢
    clear eh38
    show mv_rq l G mX3_selectPlace (d + 1) 41 [some (.ref u0), some (.int u1), some (.int u2), some (.ref u3), some (.ref x8)] [] h38 _
    exact q_vret dX3_selectPlace_41 rfl hq
def w_X3_fromBegin (l : Launch) (G : mv_G) (d : Nat) (u0 : Int32) (u1 : Int32) (h : mv_H) (Q : mv_O → mv_H → Prop) : Prop :=
  vif (0 ≤ u0) (
    Q (.inl (some (.int u0))) h) (
    Q (.inl (some (.int (u1 + u0)))) h)
theorem v_X3_fromBegin {l : Launch} {G : mv_G} {d : Nat} {u0 : Int32} {u1 : Int32} {h : mv_H} {Q : mv_O → mv_H → Prop} (hG : mv_ok G) (hq : w_X3_fromBegin l G d u0 u1 h Q) : mv_rq l G mX3_fromBegin d 0 (mv_in [.int u0, .int u1] 2) [] h Q := by
  unfold w_X3_fromBegin at hq
  show mv_rq l G mX3_fromBegin d 0 [some (.int u0), some (.int u1)] [] h _
  refine q_iload_n dX3_fromBegin_0 rfl ?_
  refine q_if_ge (tgt := 10) dX3_fromBegin_1 (by decide) (fun c1 => ?_) (fun c1 => ?_)
  ·
    have hq := vif_t hq c1
    refine q_iload_n dX3_fromBegin_10 rfl ?_
    exact q_iret (ty := .int) dX3_fromBegin_11 rfl rfl hq
  ·
    have hq := vif_f hq c1
    refine q_iload_n dX3_fromBegin_4 rfl ?_
    refine q_iload_n dX3_fromBegin_5 rfl ?_
    refine q_iadd dX3_fromBegin_6 ?_
    refine q_goto (tgt := 11) dX3_fromBegin_7 (by decide) ?_
    exact q_iret (ty := .int) dX3_fromBegin_11 rfl rfl hq
def w_X3_selectStretch (l : Launch) (G : mv_G) (d : Nat) (u0 : Nat) (u1 : Int32) (u2 : Nat) (u3 : Nat) (h : mv_H) (Q : mv_O → mv_H → Prop) : Prop :=
  vgb h u0 5 1 fun x1 =>
  vgb h x1 3 0 fun x4 =>
  vab G h x4 4 u1 fun x8 =>
  vgi h x8 13 0 fun x9 =>
  vif (x9 = 5) (
    vgi h u2 10 4 fun x17 =>
    vif (x17 = 0) (
      Q (.inl none) h) (
      vgb h u0 5 1 fun x25 =>
      vgb h x25 3 0 fun x28 =>
      vab G h x28 4 u1 fun x32 =>
      vgi h x32 13 1 fun x33 =>
      vgi h u2 10 4 fun x39 =>
      vif (x39 ≤ 0) (
        mv_rq l G mX3_selectStretch (d + 1) 50 [some (.ref u0), some (.int u1), some (.ref u2), some (.ref u3), some (.int x33), none, none, none, none, none] [.int 0] h Q) (
        mv_rq l G mX3_selectStretch (d + 1) 50 [some (.ref u0), some (.int u1), some (.ref u2), some (.ref u3), some (.int x33), none, none, none, none, none] [.int 1] h Q))) (
    Q (.inl none) h)
theorem v_X3_selectStretch {l : Launch} {G : mv_G} {d : Nat} {u0 : Nat} {u1 : Int32} {u2 : Nat} {u3 : Nat} {h : mv_H} {Q : mv_O → mv_H → Prop} (hG : mv_ok G) (hq : w_X3_selectStretch l G d u0 u1 u2 u3 h Q) : mv_rq l G mX3_selectStretch (d + 1) 0 (mv_in [.ref u0, .int u1, .ref u2, .ref u3] 10) [] h Q := by
  unfold w_X3_selectStretch at hq
  show mv_rq l G mX3_selectStretch (d + 1) 0 [some (.ref u0), some (.int u1), some (.ref u2), some (.ref u3), none, none, none, none, none, none] [] h _
  refine q_aload_n dX3_selectStretch_0 rfl ?_
  obtain ⟨fs1, x1, f1, g1, hq⟩ := vgb_e hq
  refine q_getf (k := 1) (T := TX3) (C0 := RX3) (N := 3) (ci := 5) dX3_selectStretch_1 fl_RX3_17 rfl uin_RX3 (by decide) rfl f1 g1 ?_
  obtain ⟨fs4, x4, f4, g4, hq⟩ := vgb_e hq
  refine q_getf (k := 0) (T := TX1) (C0 := RX1) (N := 4) (ci := 3) dX3_selectStretch_4 fl_RX3_76 rfl uin_RX1 (by decide) rfl f4 g4 ?_
  refine q_iload_n dX3_selectStretch_7 rfl ?_
  obtain ⟨n8, f8, x8, g8, i8, e8, hq⟩ := vab_e hq
  refine q_aald (t0 := 4) dX3_selectStretch_8 (mv_ty hG (t := 4) rfl) g8 i8 ?_
  rw [e8]
  show mv_rq l G mX3_selectStretch (d + 1) 9 [some (.ref u0), some (.int u1), some (.ref u2), some (.ref u3), none, none, none, none, none, none] [.ref x8] h _
  obtain ⟨fs9, x9, f9, g9, hq⟩ := vgi_e hq
  refine q_getf (k := 0) (T := TX11) (C0 := RX11) (N := 10) (ci := 13) dX3_selectStretch_9 fl_RX3_145 rfl uin_RX11 (by decide) rfl f9 g9 ?_
  refine q_iconst (v := 5) dX3_selectStretch_12 (by decide) ?_
  refine q_icmp_ne (tgt := 23) dX3_selectStretch_13 (by decide) (fun c13 => ?_) (fun c13 => ?_)
  ·
    have hq := vif_f hq c13
    exact q_vret dX3_selectStretch_23 rfl hq
  ·
    have hq := vif_t hq c13
    refine q_aload_n dX3_selectStretch_16 rfl ?_
    obtain ⟨fs17, x17, f17, g17, hq⟩ := vgi_e hq
    refine q_getf (k := 4) (T := TX8) (C0 := RX8) (N := 9) (ci := 10) dX3_selectStretch_17 fl_RX3_156 rfl uin_RX8 (by decide) rfl f17 g17 ?_
    refine q_if_ne (tgt := 24) dX3_selectStretch_20 (by decide) (fun c20 => ?_) (fun c20 => ?_)
    ·
      have hq := vif_f hq c20
      refine q_aload_n dX3_selectStretch_24 rfl ?_
      obtain ⟨fs25, x25, f25, g25, hq⟩ := vgb_e hq
      refine q_getf (k := 1) (T := TX3) (C0 := RX3) (N := 3) (ci := 5) dX3_selectStretch_25 fl_RX3_17 rfl uin_RX3 (by decide) rfl f25 g25 ?_
      obtain ⟨fs28, x28, f28, g28, hq⟩ := vgb_e hq
      refine q_getf (k := 0) (T := TX1) (C0 := RX1) (N := 4) (ci := 3) dX3_selectStretch_28 fl_RX3_76 rfl uin_RX1 (by decide) rfl f28 g28 ?_
      refine q_iload_n dX3_selectStretch_31 rfl ?_
      obtain ⟨n32, f32, x32, g32, i32, e32, hq⟩ := vab_e hq
      refine q_aald (t0 := 4) dX3_selectStretch_32 (mv_ty hG (t := 4) rfl) g32 i32 ?_
      rw [e32]
      show mv_rq l G mX3_selectStretch (d + 1) 33 [some (.ref u0), some (.int u1), some (.ref u2), some (.ref u3), none, none, none, none, none, none] [.ref x32] h _
      obtain ⟨fs33, x33, f33, g33, hq⟩ := vgi_e hq
      refine q_getf (k := 1) (T := TX11) (C0 := RX11) (N := 10) (ci := 13) dX3_selectStretch_33 fl_RX3_146 rfl uin_RX11 (by decide) rfl f33 g33 ?_
      refine q_istore dX3_selectStretch_36 (Nat.le_of_ble_eq_true rfl) rfl ?_
      show mv_rq l G mX3_selectStretch (d + 1) 38 [some (.ref u0), some (.int u1), some (.ref u2), some (.ref u3), some (.int x33), none, none, none, none, none] [] h _
      refine q_aload_n dX3_selectStretch_38 rfl ?_
      obtain ⟨fs39, x39, f39, g39, hq⟩ := vgi_e hq
      refine q_getf (k := 4) (T := TX8) (C0 := RX8) (N := 9) (ci := 10) dX3_selectStretch_39 fl_RX3_156 rfl uin_RX8 (by decide) rfl f39 g39 ?_
      refine q_if_le (tgt := 49) dX3_selectStretch_42 (by decide) (fun c42 => ?_) (fun c42 => ?_)
      ·
        have hq := vif_t hq c42
        refine q_iconst (v := 0) dX3_selectStretch_49 (by decide) ?_
        exact mv_weak (A := [some (.ref u0), some (.int u1), some (.ref u2), some (.ref u3), some (.int x33), none, none, none, none, none]) (by repeat' constructor) hq
      ·
        have hq := vif_f hq c42
        refine q_iconst (v := 1) dX3_selectStretch_45 (by decide) ?_
        refine q_goto (tgt := 50) dX3_selectStretch_46 (by decide) ?_
        exact mv_weak (A := [some (.ref u0), some (.int u1), some (.ref u2), some (.ref u3), some (.int x33), none, none, none, none, none]) (by repeat' constructor) hq
    ·
      have hq := vif_t hq c20
      exact q_vret dX3_selectStretch_23 rfl hq
def w_X3_selectStretch_50 (l : Launch) (G : mv_G) (d : Nat) (u0 : Nat) (u1 : Int32) (u2 : Nat) (u3 : Nat) (u4 : Int32) (w0 : Int32) (h : mv_H) (Q : mv_O → mv_H → Prop) : Prop :=
  vif (w0 = 0) (
    mv_rq l G mX3_firstDownwards d 0 (mv_in [.ref u2, .int u4] 4) [] h (vI (fun E h1 => Q (.inr E) h1) (fun x69 h69 =>
    mv_rq l G mX3_selectStretch (d + 1) 72 [some (.ref u0), some (.int u1), some (.ref u2), some (.ref u3), some (.int u4), some (.int w0), none, none, none, none] [.int x69] h69 Q))) (
    mv_rq l G mX3_firstUpwards d 0 (mv_in [.ref u2, .int u4] 2) [] h (vI (fun E h1 => Q (.inr E) h1) (fun x60 h60 =>
    mv_rq l G mX3_selectStretch (d + 1) 72 [some (.ref u0), some (.int u1), some (.ref u2), some (.ref u3), some (.int u4), some (.int w0), none, none, none, none] [.int x60] h60 Q)))
theorem v_X3_selectStretch_50 {l : Launch} {G : mv_G} {d : Nat} {u0 : Nat} {u1 : Int32} {u2 : Nat} {u3 : Nat} {u4 : Int32} {w0 : Int32} {h : mv_H} {Q : mv_O → mv_H → Prop} (hG : mv_ok G) (hq : w_X3_selectStretch_50 l G d u0 u1 u2 u3 u4 w0 h Q) : mv_rq l G mX3_selectStretch (d + 1) 50 [some (.ref u0), some (.int u1), some (.ref u2), some (.ref u3), some (.int u4), none, none, none, none, none] [.int w0] h Q := by
  unfold w_X3_selectStretch_50 at hq
  refine q_istore dX3_selectStretch_50 (Nat.le_of_ble_eq_true rfl) rfl ?_
  show mv_rq l G mX3_selectStretch (d + 1) 52 [some (.ref u0), some (.int u1), some (.ref u2), some (.ref u3), some (.int u4), some (.int w0), none, none, none, none] [] h _
  refine q_iload dX3_selectStretch_52 rfl ?_
  refine q_if_eq (tgt := 66) dX3_selectStretch_54 (by decide) (fun c54 => ?_) (fun c54 => ?_)
  ·
    have hq := vif_t hq c54
    refine q_aload_n dX3_selectStretch_66 rfl ?_
    refine q_iload dX3_selectStretch_67 rfl ?_
    refine q_cS (Y := mX3_firstDownwards) (As := [.ref u2, .int u4]) (st := []) sc_X3_firstDownwards dX3_selectStretch_69 ml_RX3_163 rfl (Nat.le_of_ble_eq_true rfl) rfl (Nat.le_of_ble_eq_true rfl) hq (fun v h1 hq1 => ?_) (fun E h1 hq1 => ?_)
    rotate_left
    ·
      rcases hq1 with hq1 | ⟨E1, e1, hq1⟩
      · obtain ⟨_, z, _⟩ := hq1; exact nomatch z
      · obtain rfl := Sum.inr.inj e1; exact q_xout (fun z hz => nomatch hz) hq1
    rcases hq1 with hq1 | ⟨E1, e1, hq1⟩
    rotate_left
    · exact nomatch e1
    obtain ⟨x69, hv, hq⟩ := hq1
    obtain rfl := Sum.inl.inj hv
    clear hv
    obtain ⟨h69, eh69⟩ : ∃ z, z = h1 := ⟨_, rfl⟩
    rw [← eh69] at hq ⊢
    clear eh69
    show mv_rq l G mX3_selectStretch (d + 1) 72 [some (.ref u0), some (.int u1), some (.ref u2), some (.ref u3), some (.int u4), some (.int w0), none, none, none, none] [.int x69] h69 _
    exact mv_weak (A := [some (.ref u0), some (.int u1), some (.ref u2), some (.ref u3), some (.int u4), some (.int w0), none, none, none, none]) (by repeat' constructor) hq
  ·
    have hq := vif_f hq c54
    refine q_aload_n dX3_selectStretch_57 rfl ?_
    refine q_iload dX3_selectStretch_58 rfl ?_
    refine q_cS (Y := mX3_firstUpwards) (As := [.ref u2, .int u4]) (st := []) sc_X3_firstUpwards dX3_selectStretch_60 ml_RX3_159 rfl (Nat.le_of_ble_eq_true rfl) rfl (Nat.le_of_ble_eq_true rfl) hq (fun v h1 hq1 => ?_) (fun E h1 hq1 => ?_)
    rotate_left
    ·
      rcases hq1 with hq1 | ⟨E1, e1, hq1⟩
      · obtain ⟨_, z, _⟩ := hq1; exact nomatch z
      · obtain rfl := Sum.inr.inj e1; exact q_xout (fun z hz => nomatch hz) hq1
    rcases hq1 with hq1 | ⟨E1, e1, hq1⟩
    rotate_left
    · exact nomatch e1
    obtain ⟨x60, hv, hq⟩ := hq1
    obtain rfl := Sum.inl.inj hv
    clear hv
    obtain ⟨h60, eh60⟩ : ∃ z, z = h1 := ⟨_, rfl⟩
    rw [← eh60] at hq ⊢
    clear eh60
    show mv_rq l G mX3_selectStretch (d + 1) 63 [some (.ref u0), some (.int u1), some (.ref u2), some (.ref u3), some (.int u4), some (.int w0), none, none, none, none] [.int x60] h60 _
    refine q_goto (tgt := 72) dX3_selectStretch_63 (by decide) ?_
    exact mv_weak (A := [some (.ref u0), some (.int u1), some (.ref u2), some (.ref u3), some (.int u4), some (.int w0), none, none, none, none]) (by repeat' constructor) hq
def w_X3_selectStretch_72 (l : Launch) (G : mv_G) (d : Nat) (u0 : Nat) (u1 : Int32) (u2 : Nat) (u3 : Nat) (u4 : Int32) (u5 : Int32) (w0 : Int32) (h : mv_H) (Q : mv_O → mv_H → Prop) : Prop :=
  vif (u5 = 0) (
    mv_rq l G mX3_endDownwards d 0 (mv_in [.ref u2, .int u4] 2) [] h (vI (fun E h1 => Q (.inr E) h1) (fun x91 h91 =>
    mv_rq l G mX3_selectStretch (d + 1) 94 [some (.ref u0), some (.int u1), some (.ref u2), some (.ref u3), some (.int u4), some (.int u5), some (.int w0), none, none, none] [.int x91] h91 Q))) (
    mv_rq l G mX3_endUpwards d 0 (mv_in [.ref u2, .int u4] 2) [] h (vI (fun E h1 => Q (.inr E) h1) (fun x82 h82 =>
    mv_rq l G mX3_selectStretch (d + 1) 94 [some (.ref u0), some (.int u1), some (.ref u2), some (.ref u3), some (.int u4), some (.int u5), some (.int w0), none, none, none] [.int x82] h82 Q)))
theorem v_X3_selectStretch_72 {l : Launch} {G : mv_G} {d : Nat} {u0 : Nat} {u1 : Int32} {u2 : Nat} {u3 : Nat} {u4 : Int32} {u5 : Int32} {w0 : Int32} {h : mv_H} {Q : mv_O → mv_H → Prop} (hG : mv_ok G) (hq : w_X3_selectStretch_72 l G d u0 u1 u2 u3 u4 u5 w0 h Q) : mv_rq l G mX3_selectStretch (d + 1) 72 [some (.ref u0), some (.int u1), some (.ref u2), some (.ref u3), some (.int u4), some (.int u5), none, none, none, none] [.int w0] h Q := by
  unfold w_X3_selectStretch_72 at hq
  refine q_istore dX3_selectStretch_72 (Nat.le_of_ble_eq_true rfl) rfl ?_
  show mv_rq l G mX3_selectStretch (d + 1) 74 [some (.ref u0), some (.int u1), some (.ref u2), some (.ref u3), some (.int u4), some (.int u5), some (.int w0), none, none, none] [] h _
  refine q_iload dX3_selectStretch_74 rfl ?_
  refine q_if_eq (tgt := 88) dX3_selectStretch_76 (by decide) (fun c76 => ?_) (fun c76 => ?_)
  ·
    have hq := vif_t hq c76
    refine q_aload_n dX3_selectStretch_88 rfl ?_
    refine q_iload dX3_selectStretch_89 rfl ?_
    refine q_cS (Y := mX3_endDownwards) (As := [.ref u2, .int u4]) (st := []) sc_X3_endDownwards dX3_selectStretch_91 ml_RX3_169 rfl (Nat.le_of_ble_eq_true rfl) rfl (Nat.le_of_ble_eq_true rfl) hq (fun v h1 hq1 => ?_) (fun E h1 hq1 => ?_)
    rotate_left
    ·
      rcases hq1 with hq1 | ⟨E1, e1, hq1⟩
      · obtain ⟨_, z, _⟩ := hq1; exact nomatch z
      · obtain rfl := Sum.inr.inj e1; exact q_xout (fun z hz => nomatch hz) hq1
    rcases hq1 with hq1 | ⟨E1, e1, hq1⟩
    rotate_left
    · exact nomatch e1
    obtain ⟨x91, hv, hq⟩ := hq1
    obtain rfl := Sum.inl.inj hv
    clear hv
    obtain ⟨h91, eh91⟩ : ∃ z, z = h1 := ⟨_, rfl⟩
    rw [← eh91] at hq ⊢
    clear eh91
    show mv_rq l G mX3_selectStretch (d + 1) 94 [some (.ref u0), some (.int u1), some (.ref u2), some (.ref u3), some (.int u4), some (.int u5), some (.int w0), none, none, none] [.int x91] h91 _
    exact mv_weak (A := [some (.ref u0), some (.int u1), some (.ref u2), some (.ref u3), some (.int u4), some (.int u5), some (.int w0), none, none, none]) (by repeat' constructor) hq
  ·
    have hq := vif_f hq c76
    refine q_aload_n dX3_selectStretch_79 rfl ?_
    refine q_iload dX3_selectStretch_80 rfl ?_
    refine q_cS (Y := mX3_endUpwards) (As := [.ref u2, .int u4]) (st := []) sc_X3_endUpwards dX3_selectStretch_82 ml_RX3_166 rfl (Nat.le_of_ble_eq_true rfl) rfl (Nat.le_of_ble_eq_true rfl) hq (fun v h1 hq1 => ?_) (fun E h1 hq1 => ?_)
    rotate_left
    ·
      rcases hq1 with hq1 | ⟨E1, e1, hq1⟩
      · obtain ⟨_, z, _⟩ := hq1; exact nomatch z
      · obtain rfl := Sum.inr.inj e1; exact q_xout (fun z hz => nomatch hz) hq1
    rcases hq1 with hq1 | ⟨E1, e1, hq1⟩
    rotate_left
    · exact nomatch e1
    obtain ⟨x82, hv, hq⟩ := hq1
    obtain rfl := Sum.inl.inj hv
    clear hv
    obtain ⟨h82, eh82⟩ : ∃ z, z = h1 := ⟨_, rfl⟩
    rw [← eh82] at hq ⊢
    clear eh82
    show mv_rq l G mX3_selectStretch (d + 1) 85 [some (.ref u0), some (.int u1), some (.ref u2), some (.ref u3), some (.int u4), some (.int u5), some (.int w0), none, none, none] [.int x82] h82 _
    refine q_goto (tgt := 94) dX3_selectStretch_85 (by decide) ?_
    exact mv_weak (A := [some (.ref u0), some (.int u1), some (.ref u2), some (.ref u3), some (.int u4), some (.int u5), some (.int w0), none, none, none]) (by repeat' constructor) hq
def w_X3_selectStretch_94 (l : Launch) (G : mv_G) (d : Nat) (u0 : Nat) (u1 : Int32) (u2 : Nat) (u3 : Nat) (u4 : Int32) (u5 : Int32) (u6 : Int32) (w0 : Int32) (h : mv_H) (Q : mv_O → mv_H → Prop) : Prop :=
  mv_rq l G mX3_selectStretch (d + 1) 99 [some (.ref u0), some (.int u1), some (.ref u2), some (.ref u3), some (.int u4), some (.int u5), some (.int u6), some (.int w0), some (.int 0), none] [] h Q
theorem v_X3_selectStretch_94 {l : Launch} {G : mv_G} {d : Nat} {u0 : Nat} {u1 : Int32} {u2 : Nat} {u3 : Nat} {u4 : Int32} {u5 : Int32} {u6 : Int32} {w0 : Int32} {h : mv_H} {Q : mv_O → mv_H → Prop} (hG : mv_ok G) (hq : w_X3_selectStretch_94 l G d u0 u1 u2 u3 u4 u5 u6 w0 h Q) : mv_rq l G mX3_selectStretch (d + 1) 94 [some (.ref u0), some (.int u1), some (.ref u2), some (.ref u3), some (.int u4), some (.int u5), some (.int u6), none, none, none] [.int w0] h Q := by
  unfold w_X3_selectStretch_94 at hq
  refine q_istore dX3_selectStretch_94 (Nat.le_of_ble_eq_true rfl) rfl ?_
  show mv_rq l G mX3_selectStretch (d + 1) 96 [some (.ref u0), some (.int u1), some (.ref u2), some (.ref u3), some (.int u4), some (.int u5), some (.int u6), some (.int w0), none, none] [] h _
  refine q_iconst (v := 0) dX3_selectStretch_96 (by decide) ?_
  refine q_istore dX3_selectStretch_97 (Nat.le_of_ble_eq_true rfl) rfl ?_
  show mv_rq l G mX3_selectStretch (d + 1) 99 [some (.ref u0), some (.int u1), some (.ref u2), some (.ref u3), some (.int u4), some (.int u5), some (.int u6), some (.int w0), some (.int 0), none] [] h _
  exact mv_weak (A := [some (.ref u0), some (.int u1), some (.ref u2), some (.ref u3), some (.int u4), some (.int u5), some (.int u6), some (.int w0), some (.int 0), none]) (by repeat' constructor) hq
def w_X3_selectStretch_99 (l : Launch) (G : mv_G) (d : Nat) (u0 : Nat) (u1 : Int32) (u2 : Nat) (u3 : Nat) (u4 : Int32) (u5 : Int32) (u6 : Int32) (u7 : Int32) (u8 : Int32) (h : mv_H) (Q : mv_O → mv_H → Prop) : Prop :=
  vif (u4 ≤ u8) (
    Q (.inl none) h) (
    vgi h u2 10 4 fun x111 =>
    vif (u5 = 0) (
      vif ((u6 + (u8 * x111)) ≤ u7) (
        mv_rq l G mX3_selectStretch (d + 1) 99 [some (.ref u0), some (.int u1), some (.ref u2), some (.ref u3), some (.int u4), some (.int u5), some (.int u6), some (.int u7), some (.int (u8 + 1)), none] [] h Q) (
        vgb h u0 5 1 fun x142 =>
        vob h x142 3 (
        mv_rq l G mX1_childAt d 0 (mv_in [.ref x142, .int u1, .int (u6 + (u8 * x111))] 3) [] h (vI (fun E h1 => Q (.inr E) h1) (fun x148 h148 =>
        vob h148 u3 8 (
        mv_rq l G mX6_addIfThere d 0 (mv_in [.ref u3, .int x148] 2) [] h148 (vU (fun E h1 => Q (.inr E) h1) (fun h151 =>
        mv_rq l G mX3_selectStretch (d + 1) 99 [some (.ref u0), some (.int u1), some (.ref u2), some (.ref u3), some (.int u4), some (.int u5), some (.int u6), some (.int u7), some (.int (u8 + 1)), none] [] h151 Q)))))))) (
      vif (u7 ≤ (u6 + (u8 * x111))) (
        mv_rq l G mX3_selectStretch (d + 1) 99 [some (.ref u0), some (.int u1), some (.ref u2), some (.ref u3), some (.int u4), some (.int u5), some (.int u6), some (.int u7), some (.int (u8 + 1)), none] [] h Q) (
        vgb h u0 5 1 fun x142 =>
        vob h x142 3 (
        mv_rq l G mX1_childAt d 0 (mv_in [.ref x142, .int u1, .int (u6 + (u8 * x111))] 3) [] h (vI (fun E h1 => Q (.inr E) h1) (fun x148 h148 =>
        vob h148 u3 8 (
        mv_rq l G mX6_addIfThere d 0 (mv_in [.ref u3, .int x148] 2) [] h148 (vU (fun E h1 => Q (.inr E) h1) (fun h151 =>
        mv_rq l G mX3_selectStretch (d + 1) 99 [some (.ref u0), some (.int u1), some (.ref u2), some (.ref u3), some (.int u4), some (.int u5), some (.int u6), some (.int u7), some (.int (u8 + 1)), none] [] h151 Q)))))))))
theorem v_X3_selectStretch_99 {l : Launch} {G : mv_G} {d : Nat} {u0 : Nat} {u1 : Int32} {u2 : Nat} {u3 : Nat} {u4 : Int32} {u5 : Int32} {u6 : Int32} {u7 : Int32} {u8 : Int32} {h : mv_H} {Q : mv_O → mv_H → Prop} (hG : mv_ok G) (hq : w_X3_selectStretch_99 l G d u0 u1 u2 u3 u4 u5 u6 u7 u8 h Q) : mv_rq l G mX3_selectStretch (d + 1) 99 [some (.ref u0), some (.int u1), some (.ref u2), some (.ref u3), some (.int u4), some (.int u5), some (.int u6), some (.int u7), some (.int u8), none] [] h Q := by
  unfold w_X3_selectStretch_99 at hq
  refine q_iload dX3_selectStretch_99 rfl ?_
  refine q_iload dX3_selectStretch_101 rfl ?_
  refine q_icmp_ge (tgt := 160) dX3_selectStretch_103 (by decide) (fun c103 => ?_) (fun c103 => ?_)
  ·
    have hq := vif_t hq c103
    exact q_vret dX3_selectStretch_160 rfl hq
  ·
    have hq := vif_f hq c103
    refine q_iload dX3_selectStretch_106 rfl ?_
    refine q_iload dX3_selectStretch_108 rfl ?_
    refine q_aload_n dX3_selectStretch_110 rfl ?_
    obtain ⟨fs111, x111, f111, g111, hq⟩ := vgi_e hq
    refine q_getf (k := 4) (T := TX8) (C0 := RX8) (N := 9) (ci := 10) dX3_selectStretch_111 fl_RX3_156 rfl uin_RX8 (by decide) rfl f111 g111 ?_
    refine q_imul dX3_selectStretch_114 ?_
    refine q_iadd dX3_selectStretch_115 ?_
    refine q_istore dX3_selectStretch_116 (Nat.le_of_ble_eq_true rfl) rfl ?_
    show mv_rq l G mX3_selectStretch (d + 1) 118 [some (.ref u0), some (.int u1), some (.ref u2), some (.ref u3), some (.int u4), some (.int u5), some (.int u6), some (.int u7), some (.int u8), some (.int (u6 + (u8 * x111)))] [] h _
    refine q_iload dX3_selectStretch_118 rfl ?_
    refine q_if_eq (tgt := 133) dX3_selectStretch_120 (by decide) (fun c120 => ?_) (fun c120 => ?_)
    ·
      have hq := vif_t hq c120
      refine q_iload dX3_selectStretch_133 rfl ?_
      refine q_iload dX3_selectStretch_135 rfl ?_
      refine q_icmp_le (tgt := 154) dX3_selectStretch_137 (by decide) (fun c137 => ?_) (fun c137 => ?_)
      ·
        have hq := vif_t hq c137
        refine q_iinc dX3_selectStretch_154 rfl rfl ?_
        show mv_rq l G mX3_selectStretch (d + 1) 157 [some (.ref u0), some (.int u1), some (.ref u2), some (.ref u3), some (.int u4), some (.int u5), some (.int u6), some (.int u7), some (.int (u8 + 1)), some (.int (u6 + (u8 * x111)))] [] h _
        refine q_goto (tgt := 99) dX3_selectStretch_157 (by decide) ?_
        exact mv_weak (A := [some (.ref u0), some (.int u1), some (.ref u2), some (.ref u3), some (.int u4), some (.int u5), some (.int u6), some (.int u7), some (.int (u8 + 1)), none]) (by repeat' constructor) hq
      ·
        have hq := vif_f hq c137
        refine q_aload_n dX3_selectStretch_140 rfl ?_
        refine q_aload_n dX3_selectStretch_141 rfl ?_
        obtain ⟨fs142, x142, f142, g142, hq⟩ := vgb_e hq
        refine q_getf (k := 1) (T := TX3) (C0 := RX3) (N := 3) (ci := 5) dX3_selectStretch_142 fl_RX3_17 rfl uin_RX3 (by decide) rfl f142 g142 ?_
        refine q_iload_n dX3_selectStretch_145 rfl ?_
        refine q_iload dX3_selectStretch_146 rfl ?_
        obtain ⟨⟨fs148, f148⟩, hq⟩ := vob_e hq
        refine q_cV (Y := mX1_childAt) (As := [.int u1, .int (u6 + (u8 * x111))]) (st := [.ref u3]) (b := x142) (ci := 3) vc_X1_childAt dX3_selectStretch_148 ml_RX3_153 rfl f148 rfl (Nat.le_of_ble_eq_true rfl) rfl (Nat.le_of_ble_eq_true rfl) hq (fun v h1 hq1 => ?_) (fun E h1 hq1 => ?_)
        rotate_left
        ·
          rcases hq1 with hq1 | ⟨E1, e1, hq1⟩
          · obtain ⟨_, z, _⟩ := hq1; exact nomatch z
          · obtain rfl := Sum.inr.inj e1; exact q_xout (fun z hz => nomatch hz) hq1
        rcases hq1 with hq1 | ⟨E1, e1, hq1⟩
        rotate_left
        · exact nomatch e1
        obtain ⟨x148, hv, hq⟩ := hq1
        obtain rfl := Sum.inl.inj hv
        clear hv
        obtain ⟨h148, eh148⟩ : ∃ z, z = h1 := ⟨_, rfl⟩
        rw [← eh148] at hq ⊢
        clear eh148
        show mv_rq l G mX3_selectStretch (d + 1) 151 [some (.ref u0), some (.int u1), some (.ref u2), some (.ref u3), some (.int u4), some (.int u5), some (.int u6), some (.int u7), some (.int u8), some (.int (u6 + (u8 * x111)))] [.int x148, .ref u3] h148 _
        obtain ⟨⟨fs151, f151⟩, hq⟩ := vob_e hq
        refine q_cV (Y := mX6_addIfThere) (As := [.int x148]) (st := []) (b := u3) (ci := 8) vc_X6_addIfThere dX3_selectStretch_151 ml_RX3_111 rfl f151 rfl (Nat.le_of_ble_eq_true rfl) rfl (Nat.le_of_ble_eq_true rfl) hq (fun v h1 hq1 => ?_) (fun E h1 hq1 => ?_)
        rotate_left
        ·
          rcases hq1 with hq1 | ⟨E1, e1, hq1⟩
          · exact nomatch hq1.1
          · obtain rfl := Sum.inr.inj e1; exact q_xout (fun z hz => nomatch hz) hq1
        rcases hq1 with hq1 | ⟨E1, e1, hq1⟩
        rotate_left
        · exact nomatch e1
        obtain ⟨hv, hq⟩ := hq1
        obtain rfl := Sum.inl.inj hv
        clear hv
        obtain ⟨h151, eh151⟩ : ∃ z, z = h1 := ⟨_, rfl⟩
        rw [← eh151] at hq ⊢
        clear eh151
        show mv_rq l G mX3_selectStretch (d + 1) 154 [some (.ref u0), some (.int u1), some (.ref u2), some (.ref u3), some (.int u4), some (.int u5), some (.int u6), some (.int u7), some (.int u8), some (.int (u6 + (u8 * x111)))] [] h151 _
        refine q_iinc dX3_selectStretch_154 rfl rfl ?_
        show mv_rq l G mX3_selectStretch (d + 1) 157 [some (.ref u0), some (.int u1), some (.ref u2), some (.ref u3), some (.int u4), some (.int u5), some (.int u6), some (.int u7), some (.int (u8 + 1)), some (.int (u6 + (u8 * x111)))] [] h151 _
        refine q_goto (tgt := 99) dX3_selectStretch_157 (by decide) ?_
        exact mv_weak (A := [some (.ref u0), some (.int u1), some (.ref u2), some (.ref u3), some (.int u4), some (.int u5), some (.int u6), some (.int u7), some (.int (u8 + 1)), none]) (by repeat' constructor) hq
    ·
      have hq := vif_f hq c120
      refine q_iload dX3_selectStretch_123 rfl ?_
      refine q_iload dX3_selectStretch_125 rfl ?_
      refine q_icmp_ge (tgt := 154) dX3_selectStretch_127 (by decide) (fun c127 => ?_) (fun c127 => ?_)
      ·
        have hq := vif_t hq c127
        refine q_iinc dX3_selectStretch_154 rfl rfl ?_
        show mv_rq l G mX3_selectStretch (d + 1) 157 [some (.ref u0), some (.int u1), some (.ref u2), some (.ref u3), some (.int u4), some (.int u5), some (.int u6), some (.int u7), some (.int (u8 + 1)), some (.int (u6 + (u8 * x111)))] [] h _
        refine q_goto (tgt := 99) dX3_selectStretch_157 (by decide) ?_
        exact mv_weak (A := [some (.ref u0), some (.int u1), some (.ref u2), some (.ref u3), some (.int u4), some (.int u5), some (.int u6), some (.int u7), some (.int (u8 + 1)), none]) (by repeat' constructor) hq
      ·
        have hq := vif_f hq c127
        refine q_goto (tgt := 140) dX3_selectStretch_130 (by decide) ?_
        refine q_aload_n dX3_selectStretch_140 rfl ?_
        refine q_aload_n dX3_selectStretch_141 rfl ?_
        obtain ⟨fs142, x142, f142, g142, hq⟩ := vgb_e hq
        refine q_getf (k := 1) (T := TX3) (C0 := RX3) (N := 3) (ci := 5) dX3_selectStretch_142 fl_RX3_17 rfl uin_RX3 (by decide) rfl f142 g142 ?_
        refine q_iload_n dX3_selectStretch_145 rfl ?_
        refine q_iload dX3_selectStretch_146 rfl ?_
        obtain ⟨⟨fs148, f148⟩, hq⟩ := vob_e hq
        refine q_cV (Y := mX1_childAt) (As := [.int u1, .int (u6 + (u8 * x111))]) (st := [.ref u3]) (b := x142) (ci := 3) vc_X1_childAt dX3_selectStretch_148 ml_RX3_153 rfl f148 rfl (Nat.le_of_ble_eq_true rfl) rfl (Nat.le_of_ble_eq_true rfl) hq (fun v h1 hq1 => ?_) (fun E h1 hq1 => ?_)
        rotate_left
        ·
          rcases hq1 with hq1 | ⟨E1, e1, hq1⟩
          · obtain ⟨_, z, _⟩ := hq1; exact nomatch z
          · obtain rfl := Sum.inr.inj e1; exact q_xout (fun z hz => nomatch hz) hq1
        rcases hq1 with hq1 | ⟨E1, e1, hq1⟩
        rotate_left
        · exact nomatch e1
        obtain ⟨x148, hv, hq⟩ := hq1
        obtain rfl := Sum.inl.inj hv
        clear hv
        obtain ⟨h148, eh148⟩ : ∃ z, z = h1 := ⟨_, rfl⟩
        rw [← eh148] at hq ⊢
        clear eh148
        show mv_rq l G mX3_selectStretch (d + 1) 151 [some (.ref u0), some (.int u1), some (.ref u2), some (.ref u3), some (.int u4), some (.int u5), some (.int u6), some (.int u7), some (.int u8), some (.int (u6 + (u8 * x111)))] [.int x148, .ref u3] h148 _
        obtain ⟨⟨fs151, f151⟩, hq⟩ := vob_e hq
        refine q_cV (Y := mX6_addIfThere) (As := [.int x148]) (st := []) (b := u3) (ci := 8) vc_X6_addIfThere dX3_selectStretch_151 ml_RX3_111 rfl f151 rfl (Nat.le_of_ble_eq_true rfl) rfl (Nat.le_of_ble_eq_true rfl) hq (fun v h1 hq1 => ?_) (fun E h1 hq1 => ?_)
        rotate_left
        ·
          rcases hq1 with hq1 | ⟨E1, e1, hq1⟩
          · exact nomatch hq1.1
          · obtain rfl := Sum.inr.inj e1; exact q_xout (fun z hz => nomatch hz) hq1
        rcases hq1 with hq1 | ⟨E1, e1, hq1⟩
        rotate_left
        · exact nomatch e1
        obtain ⟨hv, hq⟩ := hq1
        obtain rfl := Sum.inl.inj hv
        clear hv
        obtain ⟨h151, eh151⟩ : ∃ z, z = h1 := ⟨_, rfl⟩
        rw [← eh151] at hq ⊢
        clear eh151
        show mv_rq l G mX3_selectStretch (d + 1) 154 [some (.ref u0), some (.int u1), some (.ref u2), some (.ref u3), some (.int u4), some (.int u5), some (.int u6), some (.int u7), some (.int u8), some (.int (u6 + (u8 * x111)))] [] h151 _
        refine q_iinc dX3_selectStretch_154 rfl rfl ?_
        show mv_rq l G mX3_selectStretch (d + 1) 157 [some (.ref u0), some (.int u1), some (.ref u2), some (.ref u3), some (.int u4), some (.int u5), some (.int u6), some (.int u7), some (.int (u8 + 1)), some (.int (u6 + (u8 * x111)))] [] h151 _
        refine q_goto (tgt := 99) dX3_selectStretch_157 (by decide) ?_
        exact mv_weak (A := [some (.ref u0), some (.int u1), some (.ref u2), some (.ref u3), some (.int u4), some (.int u5), some (.int u6), some (.int u7), some (.int (u8 + 1)), none]) (by repeat' constructor) hq
def w_X3_firstUpwards (l : Launch) (G : mv_G) (d : Nat) (u0 : Nat) (u1 : Int32) (h : mv_H) (Q : mv_O → mv_H → Prop) : Prop :=
  vgi h u0 10 5 fun x1 =>
  vif (x1 = 0) (
    Q (.inl (some (.int 0))) h) (
    vgi h u0 10 2 fun x9 =>
    mv_rq l G mX3_fromBegin d 0 (mv_in [.int x9, .int u1] 2) [] h (vI (fun E h1 => Q (.inr E) h1) (fun x13 h13 =>
    Q (.inl (some (.int (if 0 < x13 then x13 else 0)))) h13)))
theorem v_X3_firstUpwards {l : Launch} {G : mv_G} {d : Nat} {u0 : Nat} {u1 : Int32} {h : mv_H} {Q : mv_O → mv_H → Prop} (hG : mv_ok G) (hq : w_X3_firstUpwards l G d u0 u1 h Q) : mv_rq l G mX3_firstUpwards (d + 1) 0 (mv_in [.ref u0, .int u1] 2) [] h Q := by
  unfold w_X3_firstUpwards at hq
  show mv_rq l G mX3_firstUpwards (d + 1) 0 [some (.ref u0), some (.int u1)] [] h _
  refine q_aload_n dX3_firstUpwards_0 rfl ?_
  obtain ⟨fs1, x1, f1, g1, hq⟩ := vgi_e hq
  refine q_getf (k := 5) (T := TX8) (C0 := RX8) (N := 9) (ci := 10) dX3_firstUpwards_1 fl_RX3_172 rfl uin_RX8 (by decide) rfl f1 g1 ?_
  refine q_if_eq (tgt := 22) dX3_firstUpwards_4 (by decide) (fun c4 => ?_) (fun c4 => ?_)
  ·
    have hq := vif_t hq c4
    refine q_iconst (v := 0) dX3_firstUpwards_22 (by decide) ?_
    exact q_iret (ty := .int) dX3_firstUpwards_23 rfl rfl hq
  ·
    have hq := vif_f hq c4
    refine q_iconst (v := 0) dX3_firstUpwards_7 (by decide) ?_
    refine q_aload_n dX3_firstUpwards_8 rfl ?_
    obtain ⟨fs9, x9, f9, g9, hq⟩ := vgi_e hq
    refine q_getf (k := 2) (T := TX8) (C0 := RX8) (N := 9) (ci := 10) dX3_firstUpwards_9 fl_RX3_118 rfl uin_RX8 (by decide) rfl f9 g9 ?_
    refine q_iload_n dX3_firstUpwards_12 rfl ?_
    refine q_cS (Y := mX3_fromBegin) (As := [.int x9, .int u1]) (st := [.int 0]) sc_X3_fromBegin dX3_firstUpwards_13 ml_RX3_149 rfl (Nat.le_of_ble_eq_true rfl) rfl (Nat.le_of_ble_eq_true rfl) hq (fun v h1 hq1 => ?_) (fun E h1 hq1 => ?_)
    rotate_left
    ·
      rcases hq1 with hq1 | ⟨E1, e1, hq1⟩
      · obtain ⟨_, z, _⟩ := hq1; exact nomatch z
      · obtain rfl := Sum.inr.inj e1; exact q_xout (fun z hz => nomatch hz) hq1
    rcases hq1 with hq1 | ⟨E1, e1, hq1⟩
    rotate_left
    · exact nomatch e1
    obtain ⟨x13, hv, hq⟩ := hq1
    obtain rfl := Sum.inl.inj hv
    clear hv
    obtain ⟨h13, eh13⟩ : ∃ z, z = h1 := ⟨_, rfl⟩
    rw [← eh13] at hq ⊢
    clear eh13
    show mv_rq l G mX3_firstUpwards (d + 1) 16 [some (.ref u0), some (.int u1)] [.int x13, .int 0] h13 _
    refine q_mmax dX3_firstUpwards_16 ml_RX3_175 mth_max_s mth_i mth_max_c rfl (Nat.le_of_ble_eq_true rfl) ?_
    refine q_goto (tgt := 23) dX3_firstUpwards_19 (by decide) ?_
    exact q_iret (ty := .int) dX3_firstUpwards_23 rfl rfl hq
def w_X3_endUpwards (l : Launch) (G : mv_G) (d : Nat) (u0 : Nat) (u1 : Int32) (h : mv_H) (Q : mv_O → mv_H → Prop) : Prop :=
  vgi h u0 10 6 fun x1 =>
  vif (x1 = 0) (
    Q (.inl (some (.int u1))) h) (
    vgi h u0 10 3 fun x8 =>
    mv_rq l G mX3_fromBegin d 0 (mv_in [.int x8, .int u1] 2) [] h (vI (fun E h1 => Q (.inr E) h1) (fun x12 h12 =>
    Q (.inl (some (.int x12))) h12)))
theorem v_X3_endUpwards {l : Launch} {G : mv_G} {d : Nat} {u0 : Nat} {u1 : Int32} {h : mv_H} {Q : mv_O → mv_H → Prop} (hG : mv_ok G) (hq : w_X3_endUpwards l G d u0 u1 h Q) : mv_rq l G mX3_endUpwards (d + 1) 0 (mv_in [.ref u0, .int u1] 2) [] h Q := by
  unfold w_X3_endUpwards at hq
  show mv_rq l G mX3_endUpwards (d + 1) 0 [some (.ref u0), some (.int u1)] [] h _
  refine q_aload_n dX3_endUpwards_0 rfl ?_
  obtain ⟨fs1, x1, f1, g1, hq⟩ := vgi_e hq
  refine q_getf (k := 6) (T := TX8) (C0 := RX8) (N := 9) (ci := 10) dX3_endUpwards_1 fl_RX3_180 rfl uin_RX8 (by decide) rfl f1 g1 ?_
  refine q_if_eq (tgt := 18) dX3_endUpwards_4 (by decide) (fun c4 => ?_) (fun c4 => ?_)
  ·
    have hq := vif_t hq c4
    refine q_iload_n dX3_endUpwards_18 rfl ?_
    exact q_iret (ty := .int) dX3_endUpwards_19 rfl rfl hq
  ·
    have hq := vif_f hq c4
    refine q_aload_n dX3_endUpwards_7 rfl ?_
    obtain ⟨fs8, x8, f8, g8, hq⟩ := vgi_e hq
    refine q_getf (k := 3) (T := TX8) (C0 := RX8) (N := 9) (ci := 10) dX3_endUpwards_8 fl_RX3_183 rfl uin_RX8 (by decide) rfl f8 g8 ?_
    refine q_iload_n dX3_endUpwards_11 rfl ?_
    refine q_cS (Y := mX3_fromBegin) (As := [.int x8, .int u1]) (st := []) sc_X3_fromBegin dX3_endUpwards_12 ml_RX3_149 rfl (Nat.le_of_ble_eq_true rfl) rfl (Nat.le_of_ble_eq_true rfl) hq (fun v h1 hq1 => ?_) (fun E h1 hq1 => ?_)
    rotate_left
    ·
      rcases hq1 with hq1 | ⟨E1, e1, hq1⟩
      · obtain ⟨_, z, _⟩ := hq1; exact nomatch z
      · obtain rfl := Sum.inr.inj e1; exact q_xout (fun z hz => nomatch hz) hq1
    rcases hq1 with hq1 | ⟨E1, e1, hq1⟩
    rotate_left
    · exact nomatch e1
    obtain ⟨x12, hv, hq⟩ := hq1
    obtain rfl := Sum.inl.inj hv
    clear hv
    obtain ⟨h12, eh12⟩ : ∃ z, z = h1 := ⟨_, rfl⟩
    rw [← eh12] at hq ⊢
    clear eh12
    show mv_rq l G mX3_endUpwards (d + 1) 15 [some (.ref u0), some (.int u1)] [.int x12] h12 _
    refine q_goto (tgt := 19) dX3_endUpwards_15 (by decide) ?_
    exact q_iret (ty := .int) dX3_endUpwards_19 rfl rfl hq
def w_X3_firstDownwards (l : Launch) (G : mv_G) (d : Nat) (u0 : Nat) (u1 : Int32) (h : mv_H) (Q : mv_O → mv_H → Prop) : Prop :=
  vgi h u0 10 5 fun x1 =>
  vif (x1 = 0) (
    mv_rq l G mX3_firstDownwards (d + 1) 21 [some (.ref u0), some (.int u1), none, none] [.int (u1 - 1)] h Q) (
    vgi h u0 10 2 fun x8 =>
    mv_rq l G mX3_fromBegin d 0 (mv_in [.int x8, .int u1] 2) [] h (vI (fun E h1 => Q (.inr E) h1) (fun x12 h12 =>
    mv_rq l G mX3_firstDownwards (d + 1) 21 [some (.ref u0), some (.int u1), none, none] [.int x12] h12 Q)))
theorem v_X3_firstDownwards {l : Launch} {G : mv_G} {d : Nat} {u0 : Nat} {u1 : Int32} {h : mv_H} {Q : mv_O → mv_H → Prop} (hG : mv_ok G) (hq : w_X3_firstDownwards l G d u0 u1 h Q) : mv_rq l G mX3_firstDownwards (d + 1) 0 (mv_in [.ref u0, .int u1] 4) [] h Q := by
  unfold w_X3_firstDownwards at hq
  show mv_rq l G mX3_firstDownwards (d + 1) 0 [some (.ref u0), some (.int u1), none, none] [] h _
  refine q_aload_n dX3_firstDownwards_0 rfl ?_
  obtain ⟨fs1, x1, f1, g1, hq⟩ := vgi_e hq
  refine q_getf (k := 5) (T := TX8) (C0 := RX8) (N := 9) (ci := 10) dX3_firstDownwards_1 fl_RX3_172 rfl uin_RX8 (by decide) rfl f1 g1 ?_
  refine q_if_eq (tgt := 18) dX3_firstDownwards_4 (by decide) (fun c4 => ?_) (fun c4 => ?_)
  ·
    have hq := vif_t hq c4
    refine q_iload_n dX3_firstDownwards_18 rfl ?_
    refine q_iconst (v := 1) dX3_firstDownwards_19 (by decide) ?_
    refine q_isub dX3_firstDownwards_20 ?_
    exact mv_weak (A := [some (.ref u0), some (.int u1), none, none]) (by repeat' constructor) hq
  ·
    have hq := vif_f hq c4
    refine q_aload_n dX3_firstDownwards_7 rfl ?_
    obtain ⟨fs8, x8, f8, g8, hq⟩ := vgi_e hq
    refine q_getf (k := 2) (T := TX8) (C0 := RX8) (N := 9) (ci := 10) dX3_firstDownwards_8 fl_RX3_118 rfl uin_RX8 (by decide) rfl f8 g8 ?_
    refine q_iload_n dX3_firstDownwards_11 rfl ?_
    refine q_cS (Y := mX3_fromBegin) (As := [.int x8, .int u1]) (st := []) sc_X3_fromBegin dX3_firstDownwards_12 ml_RX3_149 rfl (Nat.le_of_ble_eq_true rfl) rfl (Nat.le_of_ble_eq_true rfl) hq (fun v h1 hq1 => ?_) (fun E h1 hq1 => ?_)
    rotate_left
    ·
      rcases hq1 with hq1 | ⟨E1, e1, hq1⟩
      · obtain ⟨_, z, _⟩ := hq1; exact nomatch z
      · obtain rfl := Sum.inr.inj e1; exact q_xout (fun z hz => nomatch hz) hq1
    rcases hq1 with hq1 | ⟨E1, e1, hq1⟩
    rotate_left
    · exact nomatch e1
    obtain ⟨x12, hv, hq⟩ := hq1
    obtain rfl := Sum.inl.inj hv
    clear hv
    obtain ⟨h12, eh12⟩ : ∃ z, z = h1 := ⟨_, rfl⟩
    rw [← eh12] at hq ⊢
    clear eh12
    show mv_rq l G mX3_firstDownwards (d + 1) 15 [some (.ref u0), some (.int u1), none, none] [.int x12] h12 _
    refine q_goto (tgt := 21) dX3_firstDownwards_15 (by decide) ?_
    exact mv_weak (A := [some (.ref u0), some (.int u1), none, none]) (by repeat' constructor) hq
def w_X3_firstDownwards_21 (l : Launch) (G : mv_G) (d : Nat) (u0 : Nat) (u1 : Int32) (w0 : Int32) (h : mv_H) (Q : mv_O → mv_H → Prop) : Prop :=
  vif (w0 < u1) (
    Q (.inl (some (.int w0))) h) (
    vgi h u0 10 4 fun x28 =>
    vif (x28 < 0) (
      vgi h u0 10 4 fun x40 =>
      ¬ (-x40) = 0 ∧
      vgi h u0 10 4 fun x51 =>
      Q (.inl (some (.int (w0 + ((((w0 - u1) / (-x40)) + 1) * x51))))) h) (
      Q (.inl (some (.int w0))) h))
theorem v_X3_firstDownwards_21 {l : Launch} {G : mv_G} {d : Nat} {u0 : Nat} {u1 : Int32} {w0 : Int32} {h : mv_H} {Q : mv_O → mv_H → Prop} (hG : mv_ok G) (hq : w_X3_firstDownwards_21 l G d u0 u1 w0 h Q) : mv_rq l G mX3_firstDownwards (d + 1) 21 [some (.ref u0), some (.int u1), none, none] [.int w0] h Q := by
  unfold w_X3_firstDownwards_21 at hq
  refine q_istore_n dX3_firstDownwards_21 (Nat.le_of_ble_eq_true rfl) rfl ?_
  show mv_rq l G mX3_firstDownwards (d + 1) 22 [some (.ref u0), some (.int u1), some (.int w0), none] [] h _
  refine q_iload_n dX3_firstDownwards_22 rfl ?_
  refine q_iload_n dX3_firstDownwards_23 rfl ?_
  refine q_icmp_lt (tgt := 34) dX3_firstDownwards_24 (by decide) (fun c24 => ?_) (fun c24 => ?_)
  ·
    have hq := vif_t hq c24
    refine q_iload_n dX3_firstDownwards_34 rfl ?_
    exact q_iret (ty := .int) dX3_firstDownwards_35 rfl rfl hq
  ·
    have hq := vif_f hq c24
    refine q_aload_n dX3_firstDownwards_27 rfl ?_
    obtain ⟨fs28, x28, f28, g28, hq⟩ := vgi_e hq
    refine q_getf (k := 4) (T := TX8) (C0 := RX8) (N := 9) (ci := 10) dX3_firstDownwards_28 fl_RX3_156 rfl uin_RX8 (by decide) rfl f28 g28 ?_
    refine q_if_lt (tgt := 36) dX3_firstDownwards_31 (by decide) (fun c31 => ?_) (fun c31 => ?_)
    ·
      have hq := vif_t hq c31
      refine q_iload_n dX3_firstDownwards_36 rfl ?_
      refine q_iload_n dX3_firstDownwards_37 rfl ?_
      refine q_isub dX3_firstDownwards_38 ?_
      refine q_aload_n dX3_firstDownwards_39 rfl ?_
      obtain ⟨fs40, x40, f40, g40, hq⟩ := vgi_e hq
      refine q_getf (k := 4) (T := TX8) (C0 := RX8) (N := 9) (ci := 10) dX3_firstDownwards_40 fl_RX3_156 rfl uin_RX8 (by decide) rfl f40 g40 ?_
      refine q_ineg dX3_firstDownwards_43 ?_
      obtain ⟨z44, hq⟩ := hq
      refine q_idiv dX3_firstDownwards_44 z44 ?_
      refine q_iconst (v := 1) dX3_firstDownwards_45 (by decide) ?_
      refine q_iadd dX3_firstDownwards_46 ?_
      refine q_istore_n dX3_firstDownwards_47 (Nat.le_of_ble_eq_true rfl) rfl ?_
      show mv_rq l G mX3_firstDownwards (d + 1) 48 [some (.ref u0), some (.int u1), some (.int w0), some (.int (((w0 - u1) / (-x40)) + 1))] [] h _
      refine q_iload_n dX3_firstDownwards_48 rfl ?_
      refine q_iload_n dX3_firstDownwards_49 rfl ?_
      refine q_aload_n dX3_firstDownwards_50 rfl ?_
      obtain ⟨fs51, x51, f51, g51, hq⟩ := vgi_e hq
      refine q_getf (k := 4) (T := TX8) (C0 := RX8) (N := 9) (ci := 10) dX3_firstDownwards_51 fl_RX3_156 rfl uin_RX8 (by decide) rfl f51 g51 ?_
      refine q_imul dX3_firstDownwards_54 ?_
      refine q_iadd dX3_firstDownwards_55 ?_
      exact q_iret (ty := .int) dX3_firstDownwards_56 rfl rfl hq
    ·
      have hq := vif_f hq c31
      refine q_iload_n dX3_firstDownwards_34 rfl ?_
      exact q_iret (ty := .int) dX3_firstDownwards_35 rfl rfl hq
def w_X3_endDownwards (l : Launch) (G : mv_G) (d : Nat) (u0 : Nat) (u1 : Int32) (h : mv_H) (Q : mv_O → mv_H → Prop) : Prop :=
  vgi h u0 10 6 fun x1 =>
  vif (x1 = 0) (
    Q (.inl (some (.int (-1)))) h) (
    vgi h u0 10 3 fun x8 =>
    mv_rq l G mX3_fromBegin d 0 (mv_in [.int x8, .int u1] 2) [] h (vI (fun E h1 => Q (.inr E) h1) (fun x12 h12 =>
    Q (.inl (some (.int x12))) h12)))
theorem v_X3_endDownwards {l : Launch} {G : mv_G} {d : Nat} {u0 : Nat} {u1 : Int32} {h : mv_H} {Q : mv_O → mv_H → Prop} (hG : mv_ok G) (hq : w_X3_endDownwards l G d u0 u1 h Q) : mv_rq l G mX3_endDownwards (d + 1) 0 (mv_in [.ref u0, .int u1] 2) [] h Q := by
  unfold w_X3_endDownwards at hq
  show mv_rq l G mX3_endDownwards (d + 1) 0 [some (.ref u0), some (.int u1)] [] h _
  refine q_aload_n dX3_endDownwards_0 rfl ?_
  obtain ⟨fs1, x1, f1, g1, hq⟩ := vgi_e hq
  refine q_getf (k := 6) (T := TX8) (C0 := RX8) (N := 9) (ci := 10) dX3_endDownwards_1 fl_RX3_180 rfl uin_RX8 (by decide) rfl f1 g1 ?_
  refine q_if_eq (tgt := 18) dX3_endDownwards_4 (by decide) (fun c4 => ?_) (fun c4 => ?_)
  ·
    have hq := vif_t hq c4
    refine q_iconst (v := (-1)) dX3_endDownwards_18 (by decide) ?_
    exact q_iret (ty := .int) dX3_endDownwards_19 rfl rfl hq
  ·
    have hq := vif_f hq c4
    refine q_aload_n dX3_endDownwards_7 rfl ?_
    obtain ⟨fs8, x8, f8, g8, hq⟩ := vgi_e hq
    refine q_getf (k := 3) (T := TX8) (C0 := RX8) (N := 9) (ci := 10) dX3_endDownwards_8 fl_RX3_183 rfl uin_RX8 (by decide) rfl f8 g8 ?_
    refine q_iload_n dX3_endDownwards_11 rfl ?_
    refine q_cS (Y := mX3_fromBegin) (As := [.int x8, .int u1]) (st := []) sc_X3_fromBegin dX3_endDownwards_12 ml_RX3_149 rfl (Nat.le_of_ble_eq_true rfl) rfl (Nat.le_of_ble_eq_true rfl) hq (fun v h1 hq1 => ?_) (fun E h1 hq1 => ?_)
    rotate_left
    ·
      rcases hq1 with hq1 | ⟨E1, e1, hq1⟩
      · obtain ⟨_, z, _⟩ := hq1; exact nomatch z
      · obtain rfl := Sum.inr.inj e1; exact q_xout (fun z hz => nomatch hz) hq1
    rcases hq1 with hq1 | ⟨E1, e1, hq1⟩
    rotate_left
    · exact nomatch e1
    obtain ⟨x12, hv, hq⟩ := hq1
    obtain rfl := Sum.inl.inj hv
    clear hv
    obtain ⟨h12, eh12⟩ : ∃ z, z = h1 := ⟨_, rfl⟩
    rw [← eh12] at hq ⊢
    clear eh12
    show mv_rq l G mX3_endDownwards (d + 1) 15 [some (.ref u0), some (.int u1)] [.int x12] h12 _
    refine q_goto (tgt := 19) dX3_endDownwards_15 (by decide) ?_
    exact q_iret (ty := .int) dX3_endDownwards_19 rfl rfl hq
def w_X3_selectHolding (l : Launch) (G : mv_G) (d : Nat) (u0 : Nat) (u1 : Int32) (u2 : Nat) (u3 : Nat) (u4 : Int32) (h : mv_H) (Q : mv_O → mv_H → Prop) : Prop :=
  vgb h u0 5 1 fun x1 =>
  vgb h x1 3 0 fun x4 =>
  vab G h x4 4 u1 fun x8 =>
  vob h x8 13 (
  mv_rq l G mX11_childCount d 0 (mv_in [.ref x8] 1) [] h (vI (fun E h1 => Q (.inr E) h1) (fun x9 h9 =>
  mv_rq l G mX3_selectHolding (d + 1) 17 [some (.ref u0), some (.int u1), some (.ref u2), some (.ref u3), some (.int u4), some (.int x9), some (.int 0), none] [] h9 Q)))
theorem v_X3_selectHolding {l : Launch} {G : mv_G} {d : Nat} {u0 : Nat} {u1 : Int32} {u2 : Nat} {u3 : Nat} {u4 : Int32} {h : mv_H} {Q : mv_O → mv_H → Prop} (hG : mv_ok G) (hq : w_X3_selectHolding l G d u0 u1 u2 u3 u4 h Q) : mv_rq l G mX3_selectHolding (d + 1) 0 (mv_in [.ref u0, .int u1, .ref u2, .ref u3, .int u4] 8) [] h Q := by
  unfold w_X3_selectHolding at hq
  show mv_rq l G mX3_selectHolding (d + 1) 0 [some (.ref u0), some (.int u1), some (.ref u2), some (.ref u3), some (.int u4), none, none, none] [] h _
  refine q_aload_n dX3_selectHolding_0 rfl ?_
  obtain ⟨fs1, x1, f1, g1, hq⟩ := vgb_e hq
  refine q_getf (k := 1) (T := TX3) (C0 := RX3) (N := 3) (ci := 5) dX3_selectHolding_1 fl_RX3_17 rfl uin_RX3 (by decide) rfl f1 g1 ?_
  obtain ⟨fs4, x4, f4, g4, hq⟩ := vgb_e hq
  refine q_getf (k := 0) (T := TX1) (C0 := RX1) (N := 4) (ci := 3) dX3_selectHolding_4 fl_RX3_76 rfl uin_RX1 (by decide) rfl f4 g4 ?_
  refine q_iload_n dX3_selectHolding_7 rfl ?_
  obtain ⟨n8, f8, x8, g8, i8, e8, hq⟩ := vab_e hq
  refine q_aald (t0 := 4) dX3_selectHolding_8 (mv_ty hG (t := 4) rfl) g8 i8 ?_
  rw [e8]
  show mv_rq l G mX3_selectHolding (d + 1) 9 [some (.ref u0), some (.int u1), some (.ref u2), some (.ref u3), some (.int u4), none, none, none] [.ref x8] h _
  obtain ⟨⟨fs9, f9⟩, hq⟩ := vob_e hq
  refine q_cV (Y := mX11_childCount) (As := []) (st := []) (b := x8) (ci := 13) vc_X11_childCount dX3_selectHolding_9 ml_RX3_137 rfl f9 rfl (Nat.le_of_ble_eq_true rfl) rfl (Nat.le_of_ble_eq_true rfl) hq (fun v h1 hq1 => ?_) (fun E h1 hq1 => ?_)
  rotate_left
  ·
    rcases hq1 with hq1 | ⟨E1, e1, hq1⟩
    · obtain ⟨_, z, _⟩ := hq1; exact nomatch z
    · obtain rfl := Sum.inr.inj e1; exact q_xout (fun z hz => nomatch hz) hq1
  rcases hq1 with hq1 | ⟨E1, e1, hq1⟩
  rotate_left
  · exact nomatch e1
  obtain ⟨x9, hv, hq⟩ := hq1
  obtain rfl := Sum.inl.inj hv
  clear hv
  obtain ⟨h9, eh9⟩ : ∃ z, z = h1 := ⟨_, rfl⟩
  rw [← eh9] at hq ⊢
  clear eh9
  show mv_rq l G mX3_selectHolding (d + 1) 12 [some (.ref u0), some (.int u1), some (.ref u2), some (.ref u3), some (.int u4), none, none, none] [.int x9] h9 _
  refine q_istore dX3_selectHolding_12 (Nat.le_of_ble_eq_true rfl) rfl ?_
  show mv_rq l G mX3_selectHolding (d + 1) 14 [some (.ref u0), some (.int u1), some (.ref u2), some (.ref u3), some (.int u4), some (.int x9), none, none] [] h9 _
  refine q_iconst (v := 0) dX3_selectHolding_14 (by decide) ?_
  refine q_istore dX3_selectHolding_15 (Nat.le_of_ble_eq_true rfl) rfl ?_
  show mv_rq l G mX3_selectHolding (d + 1) 17 [some (.ref u0), some (.int u1), some (.ref u2), some (.ref u3), some (.int u4), some (.int x9), some (.int 0), none] [] h9 _
  exact mv_weak (A := [some (.ref u0), some (.int u1), some (.ref u2), some (.ref u3), some (.int u4), some (.int x9), some (.int 0), none]) (by repeat' constructor) hq
def w_X3_selectHolding_17 (l : Launch) (G : mv_G) (d : Nat) (u0 : Nat) (u1 : Int32) (u2 : Nat) (u3 : Nat) (u4 : Int32) (u5 : Int32) (u6 : Int32) (h : mv_H) (Q : mv_O → mv_H → Prop) : Prop :=
  vif (u5 ≤ u6) (
    Q (.inl none) h) (
    vgb h u0 5 1 fun x25 =>
    vgb h x25 3 1 fun x28 =>
    vab G h x28 6 u1 fun x32 =>
    vai G h x32 1 u6 fun x35 =>
    vob h u0 5 (
    mv_rq l G mX3_anyHolds d 0 (mv_in [.ref u0, .ref u2, .int x35, .int u4] 6) [] h (vI (fun E h1 => Q (.inr E) h1) (fun x44 h44 =>
    vif (x44 = 0) (
      mv_rq l G mX3_selectHolding (d + 1) 17 [some (.ref u0), some (.int u1), some (.ref u2), some (.ref u3), some (.int u4), some (.int u5), some (.int (u6 + 1)), none] [] h44 Q) (
      vob h44 u3 8 (
      mv_rq l G mX6_add d 0 (mv_in [.ref u3, .int x35] 2) [] h44 (vU (fun E h1 => Q (.inr E) h1) (fun h53 =>
      mv_rq l G mX3_selectHolding (d + 1) 17 [some (.ref u0), some (.int u1), some (.ref u2), some (.ref u3), some (.int u4), some (.int u5), some (.int (u6 + 1)), none] [] h53 Q))))))))
theorem v_X3_selectHolding_17 {l : Launch} {G : mv_G} {d : Nat} {u0 : Nat} {u1 : Int32} {u2 : Nat} {u3 : Nat} {u4 : Int32} {u5 : Int32} {u6 : Int32} {h : mv_H} {Q : mv_O → mv_H → Prop} (hG : mv_ok G) (hq : w_X3_selectHolding_17 l G d u0 u1 u2 u3 u4 u5 u6 h Q) : mv_rq l G mX3_selectHolding (d + 1) 17 [some (.ref u0), some (.int u1), some (.ref u2), some (.ref u3), some (.int u4), some (.int u5), some (.int u6), none] [] h Q := by
  unfold w_X3_selectHolding_17 at hq
  refine q_iload dX3_selectHolding_17 rfl ?_
  refine q_iload dX3_selectHolding_19 rfl ?_
  refine q_icmp_ge (tgt := 62) dX3_selectHolding_21 (by decide) (fun c21 => ?_) (fun c21 => ?_)
  ·
    have hq := vif_t hq c21
    exact q_vret dX3_selectHolding_62 rfl hq
  ·
    have hq := vif_f hq c21
    refine q_aload_n dX3_selectHolding_24 rfl ?_
    obtain ⟨fs25, x25, f25, g25, hq⟩ := vgb_e hq
    refine q_getf (k := 1) (T := TX3) (C0 := RX3) (N := 3) (ci := 5) dX3_selectHolding_25 fl_RX3_17 rfl uin_RX3 (by decide) rfl f25 g25 ?_
    obtain ⟨fs28, x28, f28, g28, hq⟩ := vgb_e hq
    refine q_getf (k := 1) (T := TX1) (C0 := RX1) (N := 4) (ci := 3) dX3_selectHolding_28 fl_RX3_141 rfl uin_RX1 (by decide) rfl f28 g28 ?_
    refine q_iload_n dX3_selectHolding_31 rfl ?_
    obtain ⟨n32, f32, x32, g32, i32, e32, hq⟩ := vab_e hq
    refine q_aaldA (t0 := 6) dX3_selectHolding_32 (mv_ty hG (t := 6) rfl) g32 i32 ?_
    rw [e32]
    show mv_rq l G mX3_selectHolding (d + 1) 33 [some (.ref u0), some (.int u1), some (.ref u2), some (.ref u3), some (.int u4), some (.int u5), some (.int u6), none] [.ref x32] h _
    refine q_iload dX3_selectHolding_33 rfl ?_
    obtain ⟨n35, f35, x35, g35, i35, e35, hq⟩ := vai_e hq
    refine q_iald (t0 := 1) dX3_selectHolding_35 (mv_tI hG) g35 i35 ?_
    rw [← e35]
    show mv_rq l G mX3_selectHolding (d + 1) 36 [some (.ref u0), some (.int u1), some (.ref u2), some (.ref u3), some (.int u4), some (.int u5), some (.int u6), none] [.int x35] h _
    refine q_istore dX3_selectHolding_36 (Nat.le_of_ble_eq_true rfl) rfl ?_
    show mv_rq l G mX3_selectHolding (d + 1) 38 [some (.ref u0), some (.int u1), some (.ref u2), some (.ref u3), some (.int u4), some (.int u5), some (.int u6), some (.int x35)] [] h _
    refine q_aload_n dX3_selectHolding_38 rfl ?_
    refine q_aload_n dX3_selectHolding_39 rfl ?_
    refine q_iload dX3_selectHolding_40 rfl ?_
    refine q_iload dX3_selectHolding_42 rfl ?_
    obtain ⟨⟨fs44, f44⟩, hq⟩ := vob_e hq
    refine q_cV (Y := mX3_anyHolds) (As := [.ref u2, .int x35, .int u4]) (st := []) (b := u0) (ci := 5) vc_X3_anyHolds dX3_selectHolding_44 ml_RX3_186 rfl f44 rfl (Nat.le_of_ble_eq_true rfl) rfl (Nat.le_of_ble_eq_true rfl) hq (fun v h1 hq1 => ?_) (fun E h1 hq1 => ?_)
    rotate_left
    ·
      rcases hq1 with hq1 | ⟨E1, e1, hq1⟩
      · obtain ⟨_, z, _⟩ := hq1; exact nomatch z
      · obtain rfl := Sum.inr.inj e1; exact q_xout (fun z hz => nomatch hz) hq1
    rcases hq1 with hq1 | ⟨E1, e1, hq1⟩
    rotate_left
    · exact nomatch e1
    obtain ⟨x44, hv, hq⟩ := hq1
    obtain rfl := Sum.inl.inj hv
    clear hv
    obtain ⟨h44, eh44⟩ : ∃ z, z = h1 := ⟨_, rfl⟩
    rw [← eh44] at hq ⊢
    clear eh44
    show mv_rq l G mX3_selectHolding (d + 1) 47 [some (.ref u0), some (.int u1), some (.ref u2), some (.ref u3), some (.int u4), some (.int u5), some (.int u6), some (.int x35)] [.int x44] h44 _
    refine q_if_eq (tgt := 56) dX3_selectHolding_47 (by decide) (fun c47 => ?_) (fun c47 => ?_)
    ·
      have hq := vif_t hq c47
      refine q_iinc dX3_selectHolding_56 rfl rfl ?_
      show mv_rq l G mX3_selectHolding (d + 1) 59 [some (.ref u0), some (.int u1), some (.ref u2), some (.ref u3), some (.int u4), some (.int u5), some (.int (u6 + 1)), some (.int x35)] [] h44 _
      refine q_goto (tgt := 17) dX3_selectHolding_59 (by decide) ?_
      exact mv_weak (A := [some (.ref u0), some (.int u1), some (.ref u2), some (.ref u3), some (.int u4), some (.int u5), some (.int (u6 + 1)), none]) (by repeat' constructor) hq
    ·
      have hq := vif_f hq c47
      refine q_aload_n dX3_selectHolding_50 rfl ?_
      refine q_iload dX3_selectHolding_51 rfl ?_
      obtain ⟨⟨fs53, f53⟩, hq⟩ := vob_e hq
      refine q_cV (Y := mX6_add) (As := [.int x35]) (st := []) (b := u3) (ci := 8) vc_X6_add dX3_selectHolding_53 ml_RX3_50 rfl f53 rfl (Nat.le_of_ble_eq_true rfl) rfl (Nat.le_of_ble_eq_true rfl) hq (fun v h1 hq1 => ?_) (fun E h1 hq1 => ?_)
      rotate_left
      ·
        rcases hq1 with hq1 | ⟨E1, e1, hq1⟩
        · exact nomatch hq1.1
        · obtain rfl := Sum.inr.inj e1; exact q_xout (fun z hz => nomatch hz) hq1
      rcases hq1 with hq1 | ⟨E1, e1, hq1⟩
      rotate_left
      · exact nomatch e1
      obtain ⟨hv, hq⟩ := hq1
      obtain rfl := Sum.inl.inj hv
      clear hv
      obtain ⟨h53, eh53⟩ : ∃ z, z = h1 := ⟨_, rfl⟩
      rw [← eh53] at hq ⊢
      clear eh53
      show mv_rq l G mX3_selectHolding (d + 1) 56 [some (.ref u0), some (.int u1), some (.ref u2), some (.ref u3), some (.int u4), some (.int u5), some (.int u6), some (.int x35)] [] h53 _
      refine q_iinc dX3_selectHolding_56 rfl rfl ?_
      show mv_rq l G mX3_selectHolding (d + 1) 59 [some (.ref u0), some (.int u1), some (.ref u2), some (.ref u3), some (.int u4), some (.int u5), some (.int (u6 + 1)), some (.int x35)] [] h53 _
      refine q_goto (tgt := 17) dX3_selectHolding_59 (by decide) ?_
      exact mv_weak (A := [some (.ref u0), some (.int u1), some (.ref u2), some (.ref u3), some (.int u4), some (.int u5), some (.int (u6 + 1)), none]) (by repeat' constructor) hq
def w_X3_anyHolds (l : Launch) (G : mv_G) (d : Nat) (u0 : Nat) (u1 : Nat) (u2 : Int32) (u3 : Int32) (h : mv_H) (Q : mv_O → mv_H → Prop) : Prop :=
  vgr h u1 11 1 fun x4 =>
  mv_rq l G mX3_anyHolds (d + 1) 9 [some (.ref u0), none, some (.int u2), some (.int u3), some (.int 0), some (va_rf x4)] [] h Q
theorem v_X3_anyHolds {l : Launch} {G : mv_G} {d : Nat} {u0 : Nat} {u1 : Nat} {u2 : Int32} {u3 : Int32} {h : mv_H} {Q : mv_O → mv_H → Prop} (hG : mv_ok G) (hq : w_X3_anyHolds l G d u0 u1 u2 u3 h Q) : mv_rq l G mX3_anyHolds (d + 1) 0 (mv_in [.ref u0, .ref u1, .int u2, .int u3] 6) [] h Q := by
  unfold w_X3_anyHolds at hq
  show mv_rq l G mX3_anyHolds (d + 1) 0 [some (.ref u0), some (.ref u1), some (.int u2), some (.int u3), none, none] [] h _
  refine q_iconst (v := 0) dX3_anyHolds_0 (by decide) ?_
  refine q_istore dX3_anyHolds_1 (Nat.le_of_ble_eq_true rfl) rfl ?_
  show mv_rq l G mX3_anyHolds (d + 1) 3 [some (.ref u0), some (.ref u1), some (.int u2), some (.int u3), some (.int 0), none] [] h _
  refine q_aload_n dX3_anyHolds_3 rfl ?_
  obtain ⟨fs4, x4, f4, g4, hq⟩ := vgr_e hq
  refine q_getf (k := 1) (T := TX9) (C0 := RX9) (N := 8) (ci := 11) dX3_anyHolds_4 fl_RX3_190 rfl uin_RX9 (by decide) rfl f4 g4 ?_
  refine q_astoreV dX3_anyHolds_7 (Nat.le_of_ble_eq_true rfl) rfl ?_
  show mv_rq l G mX3_anyHolds (d + 1) 9 [some (.ref u0), some (.ref u1), some (.int u2), some (.int u3), some (.int 0), some (va_rf x4)] [] h _
  exact mv_weak (A := [some (.ref u0), none, some (.int u2), some (.int u3), some (.int 0), some (va_rf x4)]) (by repeat' constructor) hq
def w_X3_anyHolds_9 (l : Launch) (G : mv_G) (d : Nat) (u0 : Nat) (u2 : Int32) (u3 : Int32) (u4 : Int32) (u5 : Option Nat) (h : mv_H) (Q : mv_O → mv_H → Prop) : Prop :=
  vnl u5 (
    narrow .boolean (.int u4) = .int u4 ∧
    Q (.inl (some (.int u4))) h) (fun a11 =>
    vob h u0 5 (
    mv_rq l G mX3_allHold d 0 (mv_in [.ref u0, .ref a11, .int u2, .int u3] 6) [] h (vI (fun E h1 => Q (.inr E) h1) (fun x21 h21 =>
    vgr h21 a11 11 3 fun x29 =>
    mv_rq l G mX3_anyHolds (d + 1) 9 [some (.ref u0), none, some (.int u2), some (.int u3), some (.int (u4 ||| x21)), some (va_rf x29)] [] h21 Q))))
theorem v_X3_anyHolds_9 {l : Launch} {G : mv_G} {d : Nat} {u0 : Nat} {u2 : Int32} {u3 : Int32} {u4 : Int32} {u5 : Option Nat} {h : mv_H} {Q : mv_O → mv_H → Prop} (hG : mv_ok G) (hq : w_X3_anyHolds_9 l G d u0 u2 u3 u4 u5 h Q) : mv_rq l G mX3_anyHolds (d + 1) 9 [some (.ref u0), none, some (.int u2), some (.int u3), some (.int u4), some (va_rf u5)] [] h Q := by
  unfold w_X3_anyHolds_9 at hq
  refine q_aloadV dX3_anyHolds_9 rfl ?_
  refine q_ifnullV (tgt := 37) dX3_anyHolds_11 (by decide) (fun c11 => ?_) (fun a11 c11 => ?_)
  ·
    have hz := vnl_n hq c11
    clear hq
    subst c11
    have hq := hz
    clear hz
    show mv_rq l G mX3_anyHolds (d + 1) 37 [some (.ref u0), none, some (.int u2), some (.int u3), some (.int u4), some (.null)] [] h _
    refine q_iload dX3_anyHolds_37 rfl ?_
    obtain ⟨nr39, hq⟩ := hq
    exact q_iret (ty := .boolean) dX3_anyHolds_39 rfl nr39 hq
  ·
    have hz := vnl_s hq c11
    clear hq
    subst c11
    have hq := hz
    clear hz
    show mv_rq l G mX3_anyHolds (d + 1) 14 [some (.ref u0), none, some (.int u2), some (.int u3), some (.int u4), some (.ref a11)] [] h _
    refine q_iload dX3_anyHolds_14 rfl ?_
    refine q_aload_n dX3_anyHolds_16 rfl ?_
    refine q_aload dX3_anyHolds_17 rfl ?_
    refine q_iload_n dX3_anyHolds_19 rfl ?_
    refine q_iload_n dX3_anyHolds_20 rfl ?_
    obtain ⟨⟨fs21, f21⟩, hq⟩ := vob_e hq
    refine q_cV (Y := mX3_allHold) (As := [.ref a11, .int u2, .int u3]) (st := [.int u4]) (b := u0) (ci := 5) vc_X3_allHold dX3_anyHolds_21 ml_RX3_194 rfl f21 rfl (Nat.le_of_ble_eq_true rfl) rfl (Nat.le_of_ble_eq_true rfl) hq (fun v h1 hq1 => ?_) (fun E h1 hq1 => ?_)
    rotate_left
    ·
      rcases hq1 with hq1 | ⟨E1, e1, hq1⟩
      · obtain ⟨_, z, _⟩ := hq1; exact nomatch z
      · obtain rfl := Sum.inr.inj e1; exact q_xout (fun z hz => nomatch hz) hq1
    rcases hq1 with hq1 | ⟨E1, e1, hq1⟩
    rotate_left
    · exact nomatch e1
    obtain ⟨x21, hv, hq⟩ := hq1
    obtain rfl := Sum.inl.inj hv
    clear hv
    obtain ⟨h21, eh21⟩ : ∃ z, z = h1 := ⟨_, rfl⟩
    rw [← eh21] at hq ⊢
    clear eh21
    show mv_rq l G mX3_anyHolds (d + 1) 24 [some (.ref u0), none, some (.int u2), some (.int u3), some (.int u4), some (.ref a11)] [.int x21, .int u4] h21 _
    refine q_ior dX3_anyHolds_24 ?_
    refine q_istore dX3_anyHolds_25 (Nat.le_of_ble_eq_true rfl) rfl ?_
    show mv_rq l G mX3_anyHolds (d + 1) 27 [some (.ref u0), none, some (.int u2), some (.int u3), some (.int (u4 ||| x21)), some (.ref a11)] [] h21 _
    refine q_aload dX3_anyHolds_27 rfl ?_
    obtain ⟨fs29, x29, f29, g29, hq⟩ := vgr_e hq
    refine q_getf (k := 3) (T := TX9) (C0 := RX9) (N := 8) (ci := 11) dX3_anyHolds_29 fl_RX3_197 rfl uin_RX9 (by decide) rfl f29 g29 ?_
    refine q_astoreV dX3_anyHolds_32 (Nat.le_of_ble_eq_true rfl) rfl ?_
    show mv_rq l G mX3_anyHolds (d + 1) 34 [some (.ref u0), none, some (.int u2), some (.int u3), some (.int (u4 ||| x21)), some (va_rf x29)] [] h21 _
    refine q_goto (tgt := 9) dX3_anyHolds_34 (by decide) ?_
    exact mv_weak (A := [some (.ref u0), none, some (.int u2), some (.int u3), some (.int (u4 ||| x21)), some (va_rf x29)]) (by repeat' constructor) hq
def w_X3_allHold (l : Launch) (G : mv_G) (d : Nat) (u0 : Nat) (u1 : Nat) (u2 : Int32) (u3 : Int32) (h : mv_H) (Q : mv_O → mv_H → Prop) : Prop :=
  vgr h u1 11 1 fun x4 =>
  mv_rq l G mX3_allHold (d + 1) 9 [some (.ref u0), none, some (.int u2), some (.int u3), some (.int 1), some (va_rf x4)] [] h Q
theorem v_X3_allHold {l : Launch} {G : mv_G} {d : Nat} {u0 : Nat} {u1 : Nat} {u2 : Int32} {u3 : Int32} {h : mv_H} {Q : mv_O → mv_H → Prop} (hG : mv_ok G) (hq : w_X3_allHold l G d u0 u1 u2 u3 h Q) : mv_rq l G mX3_allHold (d + 1) 0 (mv_in [.ref u0, .ref u1, .int u2, .int u3] 6) [] h Q := by
  unfold w_X3_allHold at hq
  show mv_rq l G mX3_allHold (d + 1) 0 [some (.ref u0), some (.ref u1), some (.int u2), some (.int u3), none, none] [] h _
  refine q_iconst (v := 1) dX3_allHold_0 (by decide) ?_
  refine q_istore dX3_allHold_1 (Nat.le_of_ble_eq_true rfl) rfl ?_
  show mv_rq l G mX3_allHold (d + 1) 3 [some (.ref u0), some (.ref u1), some (.int u2), some (.int u3), some (.int 1), none] [] h _
  refine q_aload_n dX3_allHold_3 rfl ?_
  obtain ⟨fs4, x4, f4, g4, hq⟩ := vgr_e hq
  refine q_getf (k := 1) (T := TX9) (C0 := RX9) (N := 8) (ci := 11) dX3_allHold_4 fl_RX3_190 rfl uin_RX9 (by decide) rfl f4 g4 ?_
  refine q_astoreV dX3_allHold_7 (Nat.le_of_ble_eq_true rfl) rfl ?_
  show mv_rq l G mX3_allHold (d + 1) 9 [some (.ref u0), some (.ref u1), some (.int u2), some (.int u3), some (.int 1), some (va_rf x4)] [] h _
  exact mv_weak (A := [some (.ref u0), none, some (.int u2), some (.int u3), some (.int 1), some (va_rf x4)]) (by repeat' constructor) hq
def w_X3_allHold_9 (l : Launch) (G : mv_G) (d : Nat) (u0 : Nat) (u2 : Int32) (u3 : Int32) (u4 : Int32) (u5 : Option Nat) (h : mv_H) (Q : mv_O → mv_H → Prop) : Prop :=
  vnl u5 (
    narrow .boolean (.int u4) = .int u4 ∧
    Q (.inl (some (.int u4))) h) (fun a11 =>
    vob h u0 5 (
    mv_rq l G mX3_holds d 0 (mv_in [.ref u0, .ref a11, .int u2, .int u3] 6) [] h (vI (fun E h1 => Q (.inr E) h1) (fun x21 h21 =>
    vgr h21 a11 11 3 fun x29 =>
    mv_rq l G mX3_allHold (d + 1) 9 [some (.ref u0), none, some (.int u2), some (.int u3), some (.int (u4 &&& x21)), some (va_rf x29)] [] h21 Q))))
theorem v_X3_allHold_9 {l : Launch} {G : mv_G} {d : Nat} {u0 : Nat} {u2 : Int32} {u3 : Int32} {u4 : Int32} {u5 : Option Nat} {h : mv_H} {Q : mv_O → mv_H → Prop} (hG : mv_ok G) (hq : w_X3_allHold_9 l G d u0 u2 u3 u4 u5 h Q) : mv_rq l G mX3_allHold (d + 1) 9 [some (.ref u0), none, some (.int u2), some (.int u3), some (.int u4), some (va_rf u5)] [] h Q := by
  unfold w_X3_allHold_9 at hq
  refine q_aloadV dX3_allHold_9 rfl ?_
  refine q_ifnullV (tgt := 37) dX3_allHold_11 (by decide) (fun c11 => ?_) (fun a11 c11 => ?_)
  ·
    have hz := vnl_n hq c11
    clear hq
    subst c11
    have hq := hz
    clear hz
    show mv_rq l G mX3_allHold (d + 1) 37 [some (.ref u0), none, some (.int u2), some (.int u3), some (.int u4), some (.null)] [] h _
    refine q_iload dX3_allHold_37 rfl ?_
    obtain ⟨nr39, hq⟩ := hq
    exact q_iret (ty := .boolean) dX3_allHold_39 rfl nr39 hq
  ·
    have hz := vnl_s hq c11
    clear hq
    subst c11
    have hq := hz
    clear hz
    show mv_rq l G mX3_allHold (d + 1) 14 [some (.ref u0), none, some (.int u2), some (.int u3), some (.int u4), some (.ref a11)] [] h _
    refine q_iload dX3_allHold_14 rfl ?_
    refine q_aload_n dX3_allHold_16 rfl ?_
    refine q_aload dX3_allHold_17 rfl ?_
    refine q_iload_n dX3_allHold_19 rfl ?_
    refine q_iload_n dX3_allHold_20 rfl ?_
    obtain ⟨⟨fs21, f21⟩, hq⟩ := vob_e hq
    refine q_cV (Y := mX3_holds) (As := [.ref a11, .int u2, .int u3]) (st := [.int u4]) (b := u0) (ci := 5) vc_X3_holds dX3_allHold_21 ml_RX3_199 rfl f21 rfl (Nat.le_of_ble_eq_true rfl) rfl (Nat.le_of_ble_eq_true rfl) hq (fun v h1 hq1 => ?_) (fun E h1 hq1 => ?_)
    rotate_left
    ·
      rcases hq1 with hq1 | ⟨E1, e1, hq1⟩
      · obtain ⟨_, z, _⟩ := hq1; exact nomatch z
      · obtain rfl := Sum.inr.inj e1; exact q_xout (fun z hz => nomatch hz) hq1
    rcases hq1 with hq1 | ⟨E1, e1, hq1⟩
    rotate_left
    · exact nomatch e1
    obtain ⟨x21, hv, hq⟩ := hq1
    obtain rfl := Sum.inl.inj hv
    clear hv
    obtain ⟨h21, eh21⟩ : ∃ z, z = h1 := ⟨_, rfl⟩
    rw [← eh21] at hq ⊢
    clear eh21
    show mv_rq l G mX3_allHold (d + 1) 24 [some (.ref u0), none, some (.int u2), some (.int u3), some (.int u4), some (.ref a11)] [.int x21, .int u4] h21 _
    refine q_iand dX3_allHold_24 ?_
    refine q_istore dX3_allHold_25 (Nat.le_of_ble_eq_true rfl) rfl ?_
    show mv_rq l G mX3_allHold (d + 1) 27 [some (.ref u0), none, some (.int u2), some (.int u3), some (.int (u4 &&& x21)), some (.ref a11)] [] h21 _
    refine q_aload dX3_allHold_27 rfl ?_
    obtain ⟨fs29, x29, f29, g29, hq⟩ := vgr_e hq
    refine q_getf (k := 3) (T := TX9) (C0 := RX9) (N := 8) (ci := 11) dX3_allHold_29 fl_RX3_197 rfl uin_RX9 (by decide) rfl f29 g29 ?_
    refine q_astoreV dX3_allHold_32 (Nat.le_of_ble_eq_true rfl) rfl ?_
    show mv_rq l G mX3_allHold (d + 1) 34 [some (.ref u0), none, some (.int u2), some (.int u3), some (.int (u4 &&& x21)), some (va_rf x29)] [] h21 _
    refine q_goto (tgt := 9) dX3_allHold_34 (by decide) ?_
    exact mv_weak (A := [some (.ref u0), none, some (.int u2), some (.int u3), some (.int (u4 &&& x21)), some (va_rf x29)]) (by repeat' constructor) hq
def w_X3_holds (l : Launch) (G : mv_G) (d : Nat) (u0 : Nat) (u1 : Nat) (u2 : Int32) (u3 : Int32) (h : mv_H) (Q : mv_O → mv_H → Prop) : Prop :=
  vob h u0 5 (
  mv_rq l G mX3_refuseBeyondLimit d 0 (mv_in [.ref u0, .int u3] 2) [] h (vU (fun E h1 => Q (.inr E) h1) (fun h2 =>
  vgi h2 u1 11 0 fun x6 =>
  vif (x6 = 0) (
    vob h2 u0 5 (
    mv_rq l G mX3_anyHolds d 0 (mv_in [.ref u0, .ref u1, .int u2, .int (u3 + 1)] 6) [] h2 (vI (fun E h1 => Q (.inr E) h1) (fun x46 h46 =>
    narrow .boolean (.int x46) = .int x46 ∧
    Q (.inl (some (.int x46))) h46)))) (
  vif (x6 = 1) (
    vgb h2 u1 11 5 fun x95 =>
    vob h2 u0 5 (
    mv_rq l G mX3_valueOf d 0 (mv_in [.ref u0, .ref x95, .int u2, .int u3] 5) [] h2 (vR (fun E h1 => Q (.inr E) h1) (fun x100 h100 =>
    vgb h100 u1 11 7 fun x107 =>
    vob h100 u0 5 (
    mv_rq l G mX3_valueOf d 0 (mv_in [.ref u0, .ref x107, .int u2, .int u3] 5) [] h100 (vR (fun E h1 => Q (.inr E) h1) (fun x112 h112 =>
    vgi h112 u1 11 6 fun x121 =>
    vob h112 u0 5 (
    mv_rq l G mX3_compare d 0 (mv_in [.ref u0, va_rf x100, .int x121, va_rf x112] 4) [] h112 (vI (fun E h1 => Q (.inr E) h1) (fun x126 h126 =>
    narrow .boolean (.int x126) = .int x126 ∧
    Q (.inl (some (.int x126))) h126)))))))))) (
  vif (x6 = 2) (
    vgr h2 u1 11 1 fun x52 =>
    vob h2 u0 5 (
    mv_rq l G mX3_holds d 0 (mv_in [.ref u0, va_rf x52, .int u2, .int (u3 + 1)] 6) [] h2 (vI (fun E h1 => Q (.inr E) h1) (fun x59 h59 =>
    vif (x59 = 0) (
      Q (.inl (some (.int 1))) h59) (
      Q (.inl (some (.int 0))) h59))))) (
  vif (x6 = 3) (
    vgb h2 u1 11 4 fun x73 =>
    vob h2 u0 5 (
    mv_rq l G mX3_follow d 0 (mv_in [.ref u0, .ref x73, .int u2, .int u3] 8) [] h2 (vB (fun E h1 => Q (.inr E) h1) (fun x78 h78 =>
    vgi h78 x78 8 1 fun x81 =>
    vif (x81 ≤ 0) (
      Q (.inl (some (.int 0))) h78) (
      Q (.inl (some (.int 1))) h78))))) (
    vgb h2 u1 11 5 fun x95 =>
    vob h2 u0 5 (
    mv_rq l G mX3_valueOf d 0 (mv_in [.ref u0, .ref x95, .int u2, .int u3] 5) [] h2 (vR (fun E h1 => Q (.inr E) h1) (fun x100 h100 =>
    vgb h100 u1 11 7 fun x107 =>
    vob h100 u0 5 (
    mv_rq l G mX3_valueOf d 0 (mv_in [.ref u0, .ref x107, .int u2, .int u3] 5) [] h100 (vR (fun E h1 => Q (.inr E) h1) (fun x112 h112 =>
    vgi h112 u1 11 6 fun x121 =>
    vob h112 u0 5 (
    mv_rq l G mX3_compare d 0 (mv_in [.ref u0, va_rf x100, .int x121, va_rf x112] 4) [] h112 (vI (fun E h1 => Q (.inr E) h1) (fun x126 h126 =>
    narrow .boolean (.int x126) = .int x126 ∧
    Q (.inl (some (.int x126))) h126))))))))))))))))
theorem v_X3_holds {l : Launch} {G : mv_G} {d : Nat} {u0 : Nat} {u1 : Nat} {u2 : Int32} {u3 : Int32} {h : mv_H} {Q : mv_O → mv_H → Prop} (hG : mv_ok G) (hq : w_X3_holds l G d u0 u1 u2 u3 h Q) : mv_rq l G mX3_holds (d + 1) 0 (mv_in [.ref u0, .ref u1, .int u2, .int u3] 6) [] h Q := by
  unfold w_X3_holds at hq
  show mv_rq l G mX3_holds (d + 1) 0 [some (.ref u0), some (.ref u1), some (.int u2), some (.int u3), none, none] [] h _
  refine q_aload_n dX3_holds_0 rfl ?_
  refine q_iload_n dX3_holds_1 rfl ?_
  obtain ⟨⟨fs2, f2⟩, hq⟩ := vob_e hq
  refine q_cV (Y := mX3_refuseBeyondLimit) (As := [.int u3]) (st := []) (b := u0) (ci := 5) vc_X3_refuseBeyondLimit dX3_holds_2 ml_RX3_37 rfl f2 rfl (Nat.le_of_ble_eq_true rfl) rfl (Nat.le_of_ble_eq_true rfl) hq (fun v h1 hq1 => ?_) (fun E h1 hq1 => ?_)
  rotate_left
  ·
    rcases hq1 with hq1 | ⟨E1, e1, hq1⟩
    · exact nomatch hq1.1
    · obtain rfl := Sum.inr.inj e1; exact q_xout (fun z hz => nomatch hz) hq1
  rcases hq1 with hq1 | ⟨E1, e1, hq1⟩
  rotate_left
  · exact nomatch e1
  obtain ⟨hv, hq⟩ := hq1
  obtain rfl := Sum.inl.inj hv
  clear hv
  obtain ⟨h2, eh2⟩ : ∃ z, z = h1 := ⟨_, rfl⟩
  rw [← eh2] at hq ⊢
  clear eh2
  show mv_rq l G mX3_holds (d + 1) 5 [some (.ref u0), some (.ref u1), some (.int u2), some (.int u3), none, none] [] h2 _
  refine q_aload_n dX3_holds_5 rfl ?_
  obtain ⟨fs6, x6, f6, g6, hq⟩ := vgi_e hq
  refine q_getf (k := 0) (T := TX9) (C0 := RX9) (N := 8) (ci := 11) dX3_holds_6 fl_RX3_202 rfl uin_RX9 (by decide) rfl f6 g6 ?_
  by_cases c9_0 : x6 = 0
  ·
    have hq := vif_t hq c9_0
    have t9 := md_ti (i := 0) (by decide) c9_0
    refine q_tableIn (off := 31) (tgt := 40) dX3_holds_9 (by rw [t9]; decide) (by rw [t9]; decide) (by rw [t9]; rfl) (by decide) ?_
    refine q_aload_n dX3_holds_40 rfl ?_
    refine q_aload_n dX3_holds_41 rfl ?_
    refine q_iload_n dX3_holds_42 rfl ?_
    refine q_iload_n dX3_holds_43 rfl ?_
    refine q_iconst (v := 1) dX3_holds_44 (by decide) ?_
    refine q_iadd dX3_holds_45 ?_
    obtain ⟨⟨fs46, f46⟩, hq⟩ := vob_e hq
    refine q_cV (Y := mX3_anyHolds) (As := [.ref u1, .int u2, .int (u3 + 1)]) (st := []) (b := u0) (ci := 5) vc_X3_anyHolds dX3_holds_46 ml_RX3_186 rfl f46 rfl (Nat.le_of_ble_eq_true rfl) rfl (Nat.le_of_ble_eq_true rfl) hq (fun v h1 hq1 => ?_) (fun E h1 hq1 => ?_)
    rotate_left
    ·
      rcases hq1 with hq1 | ⟨E1, e1, hq1⟩
      · obtain ⟨_, z, _⟩ := hq1; exact nomatch z
      · obtain rfl := Sum.inr.inj e1; exact q_xout (fun z hz => nomatch hz) hq1
    rcases hq1 with hq1 | ⟨E1, e1, hq1⟩
    rotate_left
    · exact nomatch e1
    obtain ⟨x46, hv, hq⟩ := hq1
    obtain rfl := Sum.inl.inj hv
    clear hv
    obtain ⟨h46, eh46⟩ : ∃ z, z = h1 := ⟨_, rfl⟩
    rw [← eh46] at hq ⊢
    clear eh46
    show mv_rq l G mX3_holds (d + 1) 49 [some (.ref u0), some (.ref u1), some (.int u2), some (.int u3), none, none] [.int x46] h46 _
    obtain ⟨nr49, hq⟩ := hq
    exact q_iret (ty := .boolean) dX3_holds_49 rfl nr49 hq
  ·
    have hq := vif_f hq c9_0
    by_cases c9_1 : x6 = 1
    ·
      have hq := vif_t hq c9_1
      have t9 := md_ti (i := 1) (by decide) c9_1
      refine q_tableIn (off := 84) (tgt := 93) dX3_holds_9 (by rw [t9]; decide) (by rw [t9]; decide) (by rw [t9]; rfl) (by decide) ?_
      refine q_aload_n dX3_holds_93 rfl ?_
      refine q_aload_n dX3_holds_94 rfl ?_
      obtain ⟨fs95, x95, f95, g95, hq⟩ := vgb_e hq
      refine q_getf (k := 5) (T := TX9) (C0 := RX9) (N := 8) (ci := 11) dX3_holds_95 fl_RX3_207 rfl uin_RX9 (by decide) rfl f95 g95 ?_
      refine q_iload_n dX3_holds_98 rfl ?_
      refine q_iload_n dX3_holds_99 rfl ?_
      obtain ⟨⟨fs100, f100⟩, hq⟩ := vob_e hq
      refine q_cV (Y := mX3_valueOf) (As := [.ref x95, .int u2, .int u3]) (st := []) (b := u0) (ci := 5) vc_X3_valueOf dX3_holds_100 ml_RX3_211 rfl f100 rfl (Nat.le_of_ble_eq_true rfl) rfl (Nat.le_of_ble_eq_true rfl) hq (fun v h1 hq1 => ?_) (fun E h1 hq1 => ?_)
      rotate_left
      ·
        rcases hq1 with hq1 | ⟨E1, e1, hq1⟩
        · obtain ⟨_, z, _⟩ := hq1; exact nomatch z
        · obtain rfl := Sum.inr.inj e1; exact q_xout (fun z hz => nomatch hz) hq1
      rcases hq1 with hq1 | ⟨E1, e1, hq1⟩
      rotate_left
      · exact nomatch e1
      obtain ⟨x100, hv, hq⟩ := hq1
      obtain rfl := Sum.inl.inj hv
      clear hv
      obtain ⟨h100, eh100⟩ : ∃ z, z = h1 := ⟨_, rfl⟩
      rw [← eh100] at hq ⊢
      clear eh100
      show mv_rq l G mX3_holds (d + 1) 103 [some (.ref u0), some (.ref u1), some (.int u2), some (.int u3), none, none] [va_rf x100] h100 _
      refine q_astoreV dX3_holds_103 (Nat.le_of_ble_eq_true rfl) rfl ?_
      show mv_rq l G mX3_holds (d + 1) 105 [some (.ref u0), some (.ref u1), some (.int u2), some (.int u3), some (va_rf x100), none] [] h100 _
      refine q_aload_n dX3_holds_105 rfl ?_
      refine q_aload_n dX3_holds_106 rfl ?_
      obtain ⟨fs107, x107, f107, g107, hq⟩ := vgb_e hq
      refine q_getf (k := 7) (T := TX9) (C0 := RX9) (N := 8) (ci := 11) dX3_holds_107 fl_RX3_215 rfl uin_RX9 (by decide) rfl f107 g107 ?_
      refine q_iload_n dX3_holds_110 rfl ?_
      refine q_iload_n dX3_holds_111 rfl ?_
      obtain ⟨⟨fs112, f112⟩, hq⟩ := vob_e hq
      refine q_cV (Y := mX3_valueOf) (As := [.ref x107, .int u2, .int u3]) (st := []) (b := u0) (ci := 5) vc_X3_valueOf dX3_holds_112 ml_RX3_211 rfl f112 rfl (Nat.le_of_ble_eq_true rfl) rfl (Nat.le_of_ble_eq_true rfl) hq (fun v h1 hq1 => ?_) (fun E h1 hq1 => ?_)
      rotate_left
      ·
        rcases hq1 with hq1 | ⟨E1, e1, hq1⟩
        · obtain ⟨_, z, _⟩ := hq1; exact nomatch z
        · obtain rfl := Sum.inr.inj e1; exact q_xout (fun z hz => nomatch hz) hq1
      rcases hq1 with hq1 | ⟨E1, e1, hq1⟩
      rotate_left
      · exact nomatch e1
      obtain ⟨x112, hv, hq⟩ := hq1
      obtain rfl := Sum.inl.inj hv
      clear hv
      obtain ⟨h112, eh112⟩ : ∃ z, z = h1 := ⟨_, rfl⟩
      rw [← eh112] at hq ⊢
      clear eh112
      show mv_rq l G mX3_holds (d + 1) 115 [some (.ref u0), some (.ref u1), some (.int u2), some (.int u3), some (va_rf x100), none] [va_rf x112] h112 _
      refine q_astoreV dX3_holds_115 (Nat.le_of_ble_eq_true rfl) (by cases x100 <;> rfl) ?_
      show mv_rq l G mX3_holds (d + 1) 117 [some (.ref u0), some (.ref u1), some (.int u2), some (.int u3), some (va_rf x100), some (va_rf x112)] [] h112 _
      refine q_aload_n dX3_holds_117 rfl ?_
      refine q_aloadV dX3_holds_118 rfl ?_
      refine q_aload_n dX3_holds_120 rfl ?_
      obtain ⟨fs121, x121, f121, g121, hq⟩ := vgi_e hq
      refine q_getf (k := 6) (T := TX9) (C0 := RX9) (N := 8) (ci := 11) dX3_holds_121 fl_RX3_218 rfl uin_RX9 (by decide) rfl f121 g121 ?_
      refine q_aloadV dX3_holds_124 rfl ?_
      obtain ⟨⟨fs126, f126⟩, hq⟩ := vob_e hq
      refine q_cV (Y := mX3_compare) (As := [va_rf x100, .int x121, va_rf x112]) (st := []) (b := u0) (ci := 5) vc_X3_compare dX3_holds_126 ml_RX3_221 rfl f126 rfl (by cases x100 <;> cases x112 <;> exact (Nat.le_of_ble_eq_true rfl)) rfl (by cases x100 <;> cases x112 <;> exact (Nat.le_of_ble_eq_true rfl)) hq (fun v h1 hq1 => ?_) (fun E h1 hq1 => ?_)
      rotate_left
      ·
        rcases hq1 with hq1 | ⟨E1, e1, hq1⟩
        · obtain ⟨_, z, _⟩ := hq1; exact nomatch z
        · obtain rfl := Sum.inr.inj e1; exact q_xout (fun z hz => nomatch hz) hq1
      rcases hq1 with hq1 | ⟨E1, e1, hq1⟩
      rotate_left
      · exact nomatch e1
      obtain ⟨x126, hv, hq⟩ := hq1
      obtain rfl := Sum.inl.inj hv
      clear hv
      obtain ⟨h126, eh126⟩ : ∃ z, z = h1 := ⟨_, rfl⟩
      rw [← eh126] at hq ⊢
      clear eh126
      show mv_rq l G mX3_holds (d + 1) 129 [some (.ref u0), some (.ref u1), some (.int u2), some (.int u3), some (va_rf x100), some (va_rf x112)] [.int x126] h126 _
      obtain ⟨nr129, hq⟩ := hq
      exact q_iret (ty := .boolean) dX3_holds_129 rfl nr129 hq
    ·
      have hq := vif_f hq c9_1
      by_cases c9_2 : x6 = 2
      ·
        have hq := vif_t hq c9_2
        have t9 := md_ti (i := 2) (by decide) c9_2
        refine q_tableIn (off := 41) (tgt := 50) dX3_holds_9 (by rw [t9]; decide) (by rw [t9]; decide) (by rw [t9]; rfl) (by decide) ?_
        refine q_aload_n dX3_holds_50 rfl ?_
        refine q_aload_n dX3_holds_51 rfl ?_
        obtain ⟨fs52, x52, f52, g52, hq⟩ := vgr_e hq
        refine q_getf (k := 1) (T := TX9) (C0 := RX9) (N := 8) (ci := 11) dX3_holds_52 fl_RX3_190 rfl uin_RX9 (by decide) rfl f52 g52 ?_
        refine q_iload_n dX3_holds_55 rfl ?_
        refine q_iload_n dX3_holds_56 rfl ?_
        refine q_iconst (v := 1) dX3_holds_57 (by decide) ?_
        refine q_iadd dX3_holds_58 ?_
        obtain ⟨⟨fs59, f59⟩, hq⟩ := vob_e hq
        refine q_cV (Y := mX3_holds) (As := [va_rf x52, .int u2, .int (u3 + 1)]) (st := []) (b := u0) (ci := 5) vc_X3_holds dX3_holds_59 ml_RX3_199 rfl f59 rfl (by cases x52 <;> exact (Nat.le_of_ble_eq_true rfl)) rfl (by cases x52 <;> exact (Nat.le_of_ble_eq_true rfl)) hq (fun v h1 hq1 => ?_) (fun E h1 hq1 => ?_)
        rotate_left
        ·
          rcases hq1 with hq1 | ⟨E1, e1, hq1⟩
          · obtain ⟨_, z, _⟩ := hq1; exact nomatch z
          · obtain rfl := Sum.inr.inj e1; exact q_xout (fun z hz => nomatch hz) hq1
        rcases hq1 with hq1 | ⟨E1, e1, hq1⟩
        rotate_left
        · exact nomatch e1
        obtain ⟨x59, hv, hq⟩ := hq1
        obtain rfl := Sum.inl.inj hv
        clear hv
        obtain ⟨h59, eh59⟩ : ∃ z, z = h1 := ⟨_, rfl⟩
        rw [← eh59] at hq ⊢
        clear eh59
        show mv_rq l G mX3_holds (d + 1) 62 [some (.ref u0), some (.ref u1), some (.int u2), some (.int u3), none, none] [.int x59] h59 _
        refine q_if_ne (tgt := 69) dX3_holds_62 (by decide) (fun c62 => ?_) (fun c62 => ?_)
        ·
          have hq := vif_f hq c62
          refine q_iconst (v := 0) dX3_holds_69 (by decide) ?_
          exact q_iret (ty := .boolean) dX3_holds_70 rfl rfl hq
        ·
          have hq := vif_t hq c62
          refine q_iconst (v := 1) dX3_holds_65 (by decide) ?_
          refine q_goto (tgt := 70) dX3_holds_66 (by decide) ?_
          exact q_iret (ty := .boolean) dX3_holds_70 rfl rfl hq
      ·
        have hq := vif_f hq c9_2
        by_cases c9_3 : x6 = 3
        ·
          have hq := vif_t hq c9_3
          have t9 := md_ti (i := 3) (by decide) c9_3
          refine q_tableIn (off := 62) (tgt := 71) dX3_holds_9 (by rw [t9]; decide) (by rw [t9]; decide) (by rw [t9]; rfl) (by decide) ?_
          refine q_aload_n dX3_holds_71 rfl ?_
          refine q_aload_n dX3_holds_72 rfl ?_
          obtain ⟨fs73, x73, f73, g73, hq⟩ := vgb_e hq
          refine q_getf (k := 4) (T := TX9) (C0 := RX9) (N := 8) (ci := 11) dX3_holds_73 fl_RX3_203 rfl uin_RX9 (by decide) rfl f73 g73 ?_
          refine q_iload_n dX3_holds_76 rfl ?_
          refine q_iload_n dX3_holds_77 rfl ?_
          obtain ⟨⟨fs78, f78⟩, hq⟩ := vob_e hq
          refine q_cV (Y := mX3_follow) (As := [.ref x73, .int u2, .int u3]) (st := []) (b := u0) (ci := 5) vc_X3_follow dX3_holds_78 ml_RX3_26 rfl f78 rfl (Nat.le_of_ble_eq_true rfl) rfl (Nat.le_of_ble_eq_true rfl) hq (fun v h1 hq1 => ?_) (fun E h1 hq1 => ?_)
          rotate_left
          ·
            rcases hq1 with hq1 | ⟨E1, e1, hq1⟩
            · obtain ⟨_, z, _⟩ := hq1; exact nomatch z
            · obtain rfl := Sum.inr.inj e1; exact q_xout (fun z hz => nomatch hz) hq1
          rcases hq1 with hq1 | ⟨E1, e1, hq1⟩
          rotate_left
          · exact nomatch e1
          obtain ⟨x78, hv, hq⟩ := hq1
          obtain rfl := Sum.inl.inj hv
          clear hv
          obtain ⟨h78, eh78⟩ : ∃ z, z = h1 := ⟨_, rfl⟩
          rw [← eh78] at hq ⊢
          clear eh78
          show mv_rq l G mX3_holds (d + 1) 81 [some (.ref u0), some (.ref u1), some (.int u2), some (.int u3), none, none] [.ref x78] h78 _
          obtain ⟨fs81, x81, f81, g81, hq⟩ := vgi_e hq
          refine q_getf (k := 1) (T := TX6) (C0 := RX6) (N := 2) (ci := 8) dX3_holds_81 fl_RX3_57 rfl uin_RX6 (by decide) rfl f81 g81 ?_
          refine q_if_le (tgt := 91) dX3_holds_84 (by decide) (fun c84 => ?_) (fun c84 => ?_)
          ·
            have hq := vif_t hq c84
            refine q_iconst (v := 0) dX3_holds_91 (by decide) ?_
            exact q_iret (ty := .boolean) dX3_holds_92 rfl rfl hq
          ·
            have hq := vif_f hq c84
            refine q_iconst (v := 1) dX3_holds_87 (by decide) ?_
            refine q_goto (tgt := 92) dX3_holds_88 (by decide) ?_
            exact q_iret (ty := .boolean) dX3_holds_92 rfl rfl hq
        ·
          have hq := vif_f hq c9_3
          refine q_tableOut (tgt := 93) dX3_holds_9 (by have e0 := md_tn (i := 0) (by decide) c9_0; have e1 := md_tn (i := 1) (by decide) c9_1; have e2 := md_tn (i := 2) (by decide) c9_2; have e3 := md_tn (i := 3) (by decide) c9_3; omega) (by decide) ?_
          refine q_aload_n dX3_holds_93 rfl ?_
          refine q_aload_n dX3_holds_94 rfl ?_
          obtain ⟨fs95, x95, f95, g95, hq⟩ := vgb_e hq
          refine q_getf (k := 5) (T := TX9) (C0 := RX9) (N := 8) (ci := 11) dX3_holds_95 fl_RX3_207 rfl uin_RX9 (by decide) rfl f95 g95 ?_
          refine q_iload_n dX3_holds_98 rfl ?_
          refine q_iload_n dX3_holds_99 rfl ?_
          obtain ⟨⟨fs100, f100⟩, hq⟩ := vob_e hq
          refine q_cV (Y := mX3_valueOf) (As := [.ref x95, .int u2, .int u3]) (st := []) (b := u0) (ci := 5) vc_X3_valueOf dX3_holds_100 ml_RX3_211 rfl f100 rfl (Nat.le_of_ble_eq_true rfl) rfl (Nat.le_of_ble_eq_true rfl) hq (fun v h1 hq1 => ?_) (fun E h1 hq1 => ?_)
          rotate_left
          ·
            rcases hq1 with hq1 | ⟨E1, e1, hq1⟩
            · obtain ⟨_, z, _⟩ := hq1; exact nomatch z
            · obtain rfl := Sum.inr.inj e1; exact q_xout (fun z hz => nomatch hz) hq1
          rcases hq1 with hq1 | ⟨E1, e1, hq1⟩
          rotate_left
          · exact nomatch e1
          obtain ⟨x100, hv, hq⟩ := hq1
          obtain rfl := Sum.inl.inj hv
          clear hv
          obtain ⟨h100, eh100⟩ : ∃ z, z = h1 := ⟨_, rfl⟩
          rw [← eh100] at hq ⊢
          clear eh100
          show mv_rq l G mX3_holds (d + 1) 103 [some (.ref u0), some (.ref u1), some (.int u2), some (.int u3), none, none] [va_rf x100] h100 _
          refine q_astoreV dX3_holds_103 (Nat.le_of_ble_eq_true rfl) rfl ?_
          show mv_rq l G mX3_holds (d + 1) 105 [some (.ref u0), some (.ref u1), some (.int u2), some (.int u3), some (va_rf x100), none] [] h100 _
          refine q_aload_n dX3_holds_105 rfl ?_
          refine q_aload_n dX3_holds_106 rfl ?_
          obtain ⟨fs107, x107, f107, g107, hq⟩ := vgb_e hq
          refine q_getf (k := 7) (T := TX9) (C0 := RX9) (N := 8) (ci := 11) dX3_holds_107 fl_RX3_215 rfl uin_RX9 (by decide) rfl f107 g107 ?_
          refine q_iload_n dX3_holds_110 rfl ?_
          refine q_iload_n dX3_holds_111 rfl ?_
          obtain ⟨⟨fs112, f112⟩, hq⟩ := vob_e hq
          refine q_cV (Y := mX3_valueOf) (As := [.ref x107, .int u2, .int u3]) (st := []) (b := u0) (ci := 5) vc_X3_valueOf dX3_holds_112 ml_RX3_211 rfl f112 rfl (Nat.le_of_ble_eq_true rfl) rfl (Nat.le_of_ble_eq_true rfl) hq (fun v h1 hq1 => ?_) (fun E h1 hq1 => ?_)
          rotate_left
          ·
            rcases hq1 with hq1 | ⟨E1, e1, hq1⟩
            · obtain ⟨_, z, _⟩ := hq1; exact nomatch z
            · obtain rfl := Sum.inr.inj e1; exact q_xout (fun z hz => nomatch hz) hq1
          rcases hq1 with hq1 | ⟨E1, e1, hq1⟩
          rotate_left
          · exact nomatch e1
          obtain ⟨x112, hv, hq⟩ := hq1
          obtain rfl := Sum.inl.inj hv
          clear hv
          obtain ⟨h112, eh112⟩ : ∃ z, z = h1 := ⟨_, rfl⟩
          rw [← eh112] at hq ⊢
          clear eh112
          show mv_rq l G mX3_holds (d + 1) 115 [some (.ref u0), some (.ref u1), some (.int u2), some (.int u3), some (va_rf x100), none] [va_rf x112] h112 _
          refine q_astoreV dX3_holds_115 (Nat.le_of_ble_eq_true rfl) (by cases x100 <;> rfl) ?_
          show mv_rq l G mX3_holds (d + 1) 117 [some (.ref u0), some (.ref u1), some (.int u2), some (.int u3), some (va_rf x100), some (va_rf x112)] [] h112 _
          refine q_aload_n dX3_holds_117 rfl ?_
          refine q_aloadV dX3_holds_118 rfl ?_
          refine q_aload_n dX3_holds_120 rfl ?_
          obtain ⟨fs121, x121, f121, g121, hq⟩ := vgi_e hq
          refine q_getf (k := 6) (T := TX9) (C0 := RX9) (N := 8) (ci := 11) dX3_holds_121 fl_RX3_218 rfl uin_RX9 (by decide) rfl f121 g121 ?_
          refine q_aloadV dX3_holds_124 rfl ?_
          obtain ⟨⟨fs126, f126⟩, hq⟩ := vob_e hq
          refine q_cV (Y := mX3_compare) (As := [va_rf x100, .int x121, va_rf x112]) (st := []) (b := u0) (ci := 5) vc_X3_compare dX3_holds_126 ml_RX3_221 rfl f126 rfl (by cases x100 <;> cases x112 <;> exact (Nat.le_of_ble_eq_true rfl)) rfl (by cases x100 <;> cases x112 <;> exact (Nat.le_of_ble_eq_true rfl)) hq (fun v h1 hq1 => ?_) (fun E h1 hq1 => ?_)
          rotate_left
          ·
            rcases hq1 with hq1 | ⟨E1, e1, hq1⟩
            · obtain ⟨_, z, _⟩ := hq1; exact nomatch z
            · obtain rfl := Sum.inr.inj e1; exact q_xout (fun z hz => nomatch hz) hq1
          rcases hq1 with hq1 | ⟨E1, e1, hq1⟩
          rotate_left
          · exact nomatch e1
          obtain ⟨x126, hv, hq⟩ := hq1
          obtain rfl := Sum.inl.inj hv
          clear hv
          obtain ⟨h126, eh126⟩ : ∃ z, z = h1 := ⟨_, rfl⟩
          rw [← eh126] at hq ⊢
          clear eh126
          show mv_rq l G mX3_holds (d + 1) 129 [some (.ref u0), some (.ref u1), some (.int u2), some (.int u3), some (va_rf x100), some (va_rf x112)] [.int x126] h126 _
          obtain ⟨nr129, hq⟩ := hq
          exact q_iret (ty := .boolean) dX3_holds_129 rfl nr129 hq
def w_X3_valueOf (l : Launch) (G : mv_G) (d : Nat) (u0 : Nat) (u1 : Nat) (u2 : Int32) (u3 : Int32) (h : mv_H) (Q : mv_O → mv_H → Prop) : Prop :=
  vob h u0 5 (
  mv_rq l G mX3_refuseBeyondLimit d 0 (mv_in [.ref u0, .int u3] 2) [] h (vU (fun E h1 => Q (.inr E) h1) (fun h2 =>
  vgi h2 u1 12 0 fun x6 =>
  vif (x6 = 1) (
    vgb h2 u1 12 1 fun x38 =>
    vob h2 u0 5 (
    mv_rq l G mX3_follow d 0 (mv_in [.ref u0, .ref x38, .int u2, .int u3] 8) [] h2 (vB (fun E h1 => Q (.inr E) h1) (fun x43 h43 =>
    vgi h43 x43 8 1 fun x50 =>
    vif (x50 ≤ 0) (
      Q (.inl (some (.null))) h43) (
      vgb h43 u0 5 1 fun x57 =>
      vgb h43 x57 3 0 fun x60 =>
      vgb h43 x43 8 0 fun x65 =>
      vai G h43 x65 1 0 fun x69 =>
      vab G h43 x60 4 x69 fun x70 =>
      Q (.inl (some (.ref x70))) h43))))) (
  vif (x6 = 2) (
    vgb h2 u1 12 2 fun x78 =>
    vob h2 u0 5 (
    mv_rq l G mX3_valueOf d 0 (mv_in [.ref u0, .ref x78, .int u2, .int (u3 + 1)] 5) [] h2 (vR (fun E h1 => Q (.inr E) h1) (fun x85 h85 =>
    vgb h85 u1 12 3 fun x89 =>
    mv_rq l G mX3_lengthOf d 0 (mv_in [va_rf x85, .ref x89] 2) [] h85 (vR (fun E h1 => Q (.inr E) h1) (fun x92 h92 =>
    Q (.inl (some (va_rf x92))) h92)))))) (
  vif (x6 = 3) (
    vgb h2 u1 12 3 fun x97 =>
    vgb h2 u1 12 1 fun x103 =>
    vob h2 u0 5 (
    mv_rq l G mX3_follow d 0 (mv_in [.ref u0, .ref x103, .int u2, .int (u3 + 1)] 8) [] h2 (vB (fun E h1 => Q (.inr E) h1) (fun x110 h110 =>
    vgi h110 x110 8 1 fun x113 =>
    vst G RX3 240 "" fun a116 =>
    vob h110 x97 13 (
    mv_rq l G mX11_become d 0 (mv_in [.ref x97, .int 3, .int x113, .ref a116] 4) [] h110 (vU (fun E h1 => Q (.inr E) h1) (fun h118 =>
    vgb h118 u1 12 3 fun x122 =>
    Q (.inl (some (.ref x122))) h118))))))) (
    vgb h2 u1 12 3 fun x127 =>
    Q (.inl (some (.ref x127))) h2))))))
theorem v_X3_valueOf {l : Launch} {G : mv_G} {d : Nat} {u0 : Nat} {u1 : Nat} {u2 : Int32} {u3 : Int32} {h : mv_H} {Q : mv_O → mv_H → Prop} (hG : mv_ok G) (hq : w_X3_valueOf l G d u0 u1 u2 u3 h Q) : mv_rq l G mX3_valueOf (d + 1) 0 (mv_in [.ref u0, .ref u1, .int u2, .int u3] 5) [] h Q := by
  unfold w_X3_valueOf at hq
  show mv_rq l G mX3_valueOf (d + 1) 0 [some (.ref u0), some (.ref u1), some (.int u2), some (.int u3), none] [] h _
  refine q_aload_n dX3_valueOf_0 rfl ?_
  refine q_iload_n dX3_valueOf_1 rfl ?_
  obtain ⟨⟨fs2, f2⟩, hq⟩ := vob_e hq
  refine q_cV (Y := mX3_refuseBeyondLimit) (As := [.int u3]) (st := []) (b := u0) (ci := 5) vc_X3_refuseBeyondLimit dX3_valueOf_2 ml_RX3_37 rfl f2 rfl (Nat.le_of_ble_eq_true rfl) rfl (Nat.le_of_ble_eq_true rfl) hq (fun v h1 hq1 => ?_) (fun E h1 hq1 => ?_)
  rotate_left
  ·
    rcases hq1 with hq1 | ⟨E1, e1, hq1⟩
    · exact nomatch hq1.1
    · obtain rfl := Sum.inr.inj e1; exact q_xout (fun z hz => nomatch hz) hq1
  rcases hq1 with hq1 | ⟨E1, e1, hq1⟩
  rotate_left
  · exact nomatch e1
  obtain ⟨hv, hq⟩ := hq1
  obtain rfl := Sum.inl.inj hv
  clear hv
  obtain ⟨h2, eh2⟩ : ∃ z, z = h1 := ⟨_, rfl⟩
  rw [← eh2] at hq ⊢
  clear eh2
  show mv_rq l G mX3_valueOf (d + 1) 5 [some (.ref u0), some (.ref u1), some (.int u2), some (.int u3), none] [] h2 _
  refine q_aload_n dX3_valueOf_5 rfl ?_
  obtain ⟨fs6, x6, f6, g6, hq⟩ := vgi_e hq
  refine q_getf (k := 0) (T := TX10) (C0 := RX10) (N := 4) (ci := 12) dX3_valueOf_6 fl_RX3_225 rfl uin_RX10 (by decide) rfl f6 g6 ?_
  by_cases c9_0 : x6 = 1
  ·
    have hq := vif_t hq c9_0
    have t9 := md_ti (i := 1) (by decide) c9_0
    refine q_tableIn (off := 27) (tgt := 36) dX3_valueOf_9 (by rw [t9]; decide) (by rw [t9]; decide) (by rw [t9]; rfl) (by decide) ?_
    refine q_aload_n dX3_valueOf_36 rfl ?_
    refine q_aload_n dX3_valueOf_37 rfl ?_
    obtain ⟨fs38, x38, f38, g38, hq⟩ := vgb_e hq
    refine q_getf (k := 1) (T := TX10) (C0 := RX10) (N := 4) (ci := 12) dX3_valueOf_38 fl_RX3_228 rfl uin_RX10 (by decide) rfl f38 g38 ?_
    refine q_iload_n dX3_valueOf_41 rfl ?_
    refine q_iload_n dX3_valueOf_42 rfl ?_
    obtain ⟨⟨fs43, f43⟩, hq⟩ := vob_e hq
    refine q_cV (Y := mX3_follow) (As := [.ref x38, .int u2, .int u3]) (st := []) (b := u0) (ci := 5) vc_X3_follow dX3_valueOf_43 ml_RX3_26 rfl f43 rfl (Nat.le_of_ble_eq_true rfl) rfl (Nat.le_of_ble_eq_true rfl) hq (fun v h1 hq1 => ?_) (fun E h1 hq1 => ?_)
    rotate_left
    ·
      rcases hq1 with hq1 | ⟨E1, e1, hq1⟩
      · obtain ⟨_, z, _⟩ := hq1; exact nomatch z
      · obtain rfl := Sum.inr.inj e1; exact q_xout (fun z hz => nomatch hz) hq1
    rcases hq1 with hq1 | ⟨E1, e1, hq1⟩
    rotate_left
    · exact nomatch e1
    obtain ⟨x43, hv, hq⟩ := hq1
    obtain rfl := Sum.inl.inj hv
    clear hv
    obtain ⟨h43, eh43⟩ : ∃ z, z = h1 := ⟨_, rfl⟩
    rw [← eh43] at hq ⊢
    clear eh43
    show mv_rq l G mX3_valueOf (d + 1) 46 [some (.ref u0), some (.ref u1), some (.int u2), some (.int u3), none] [.ref x43] h43 _
    refine q_astore dX3_valueOf_46 (Nat.le_of_ble_eq_true rfl) rfl ?_
    show mv_rq l G mX3_valueOf (d + 1) 48 [some (.ref u0), some (.ref u1), some (.int u2), some (.int u3), some (.ref x43)] [] h43 _
    refine q_aload dX3_valueOf_48 rfl ?_
    obtain ⟨fs50, x50, f50, g50, hq⟩ := vgi_e hq
    refine q_getf (k := 1) (T := TX6) (C0 := RX6) (N := 2) (ci := 8) dX3_valueOf_50 fl_RX3_57 rfl uin_RX6 (by decide) rfl f50 g50 ?_
    refine q_if_le (tgt := 74) dX3_valueOf_53 (by decide) (fun c53 => ?_) (fun c53 => ?_)
    ·
      have hq := vif_t hq c53
      refine q_null dX3_valueOf_74 ?_
      exact q_aret (rt := (.object "TreePaths$Value")) dX3_valueOf_75 rfl (Or.inl ⟨_, rfl⟩) (Or.inl rfl) hq
    ·
      have hq := vif_f hq c53
      refine q_aload_n dX3_valueOf_56 rfl ?_
      obtain ⟨fs57, x57, f57, g57, hq⟩ := vgb_e hq
      refine q_getf (k := 1) (T := TX3) (C0 := RX3) (N := 3) (ci := 5) dX3_valueOf_57 fl_RX3_17 rfl uin_RX3 (by decide) rfl f57 g57 ?_
      obtain ⟨fs60, x60, f60, g60, hq⟩ := vgb_e hq
      refine q_getf (k := 0) (T := TX1) (C0 := RX1) (N := 4) (ci := 3) dX3_valueOf_60 fl_RX3_76 rfl uin_RX1 (by decide) rfl f60 g60 ?_
      refine q_aload dX3_valueOf_63 rfl ?_
      obtain ⟨fs65, x65, f65, g65, hq⟩ := vgb_e hq
      refine q_getf (k := 0) (T := TX6) (C0 := RX6) (N := 2) (ci := 8) dX3_valueOf_65 fl_RX3_60 rfl uin_RX6 (by decide) rfl f65 g65 ?_
      refine q_iconst (v := 0) dX3_valueOf_68 (by decide) ?_
      obtain ⟨n69, f69, x69, g69, i69, e69, hq⟩ := vai_e hq
      refine q_iald (t0 := 1) dX3_valueOf_69 (mv_tI hG) g69 i69 ?_
      rw [← e69]
      show mv_rq l G mX3_valueOf (d + 1) 70 [some (.ref u0), some (.ref u1), some (.int u2), some (.int u3), some (.ref x43)] [.int x69, .ref x60] h43 _
      obtain ⟨n70, f70, x70, g70, i70, e70, hq⟩ := vab_e hq
      refine q_aald (t0 := 4) dX3_valueOf_70 (mv_ty hG (t := 4) rfl) g70 i70 ?_
      rw [e70]
      show mv_rq l G mX3_valueOf (d + 1) 71 [some (.ref u0), some (.ref u1), some (.int u2), some (.int u3), some (.ref x43)] [.ref x70] h43 _
      refine q_goto (tgt := 75) dX3_valueOf_71 (by decide) ?_
      exact q_aret (rt := (.object "TreePaths$Value")) dX3_valueOf_75 rfl (Or.inl ⟨_, rfl⟩) (Or.inr ⟨_, rfl⟩) hq
  ·
    have hq := vif_f hq c9_0
    by_cases c9_1 : x6 = 2
    ·
      have hq := vif_t hq c9_1
      have t9 := md_ti (i := 2) (by decide) c9_1
      refine q_tableIn (off := 67) (tgt := 76) dX3_valueOf_9 (by rw [t9]; decide) (by rw [t9]; decide) (by rw [t9]; rfl) (by decide) ?_
      refine q_aload_n dX3_valueOf_76 rfl ?_
      refine q_aload_n dX3_valueOf_77 rfl ?_
      obtain ⟨fs78, x78, f78, g78, hq⟩ := vgb_e hq
      refine q_getf (k := 2) (T := TX10) (C0 := RX10) (N := 4) (ci := 12) dX3_valueOf_78 fl_RX3_229 rfl uin_RX10 (by decide) rfl f78 g78 ?_
      refine q_iload_n dX3_valueOf_81 rfl ?_
      refine q_iload_n dX3_valueOf_82 rfl ?_
      refine q_iconst (v := 1) dX3_valueOf_83 (by decide) ?_
      refine q_iadd dX3_valueOf_84 ?_
      obtain ⟨⟨fs85, f85⟩, hq⟩ := vob_e hq
      refine q_cV (Y := mX3_valueOf) (As := [.ref x78, .int u2, .int (u3 + 1)]) (st := []) (b := u0) (ci := 5) vc_X3_valueOf dX3_valueOf_85 ml_RX3_211 rfl f85 rfl (Nat.le_of_ble_eq_true rfl) rfl (Nat.le_of_ble_eq_true rfl) hq (fun v h1 hq1 => ?_) (fun E h1 hq1 => ?_)
      rotate_left
      ·
        rcases hq1 with hq1 | ⟨E1, e1, hq1⟩
        · obtain ⟨_, z, _⟩ := hq1; exact nomatch z
        · obtain rfl := Sum.inr.inj e1; exact q_xout (fun z hz => nomatch hz) hq1
      rcases hq1 with hq1 | ⟨E1, e1, hq1⟩
      rotate_left
      · exact nomatch e1
      obtain ⟨x85, hv, hq⟩ := hq1
      obtain rfl := Sum.inl.inj hv
      clear hv
      obtain ⟨h85, eh85⟩ : ∃ z, z = h1 := ⟨_, rfl⟩
      rw [← eh85] at hq ⊢
      clear eh85
      show mv_rq l G mX3_valueOf (d + 1) 88 [some (.ref u0), some (.ref u1), some (.int u2), some (.int u3), none] [va_rf x85] h85 _
      refine q_aload_n dX3_valueOf_88 rfl ?_
      obtain ⟨fs89, x89, f89, g89, hq⟩ := vgb_e hq
      refine q_getf (k := 3) (T := TX10) (C0 := RX10) (N := 4) (ci := 12) dX3_valueOf_89 fl_RX3_232 rfl uin_RX10 (by decide) rfl f89 g89 ?_
      refine q_cS (Y := mX3_lengthOf) (As := [va_rf x85, .ref x89]) (st := []) sc_X3_lengthOf dX3_valueOf_92 ml_RX3_236 rfl (by cases x85 <;> exact (Nat.le_of_ble_eq_true rfl)) rfl (by cases x85 <;> exact (Nat.le_of_ble_eq_true rfl)) hq (fun v h1 hq1 => ?_) (fun E h1 hq1 => ?_)
      rotate_left
      ·
        rcases hq1 with hq1 | ⟨E1, e1, hq1⟩
        · obtain ⟨_, z, _⟩ := hq1; exact nomatch z
        · obtain rfl := Sum.inr.inj e1; exact q_xout (fun z hz => nomatch hz) hq1
      rcases hq1 with hq1 | ⟨E1, e1, hq1⟩
      rotate_left
      · exact nomatch e1
      obtain ⟨x92, hv, hq⟩ := hq1
      obtain rfl := Sum.inl.inj hv
      clear hv
      obtain ⟨h92, eh92⟩ : ∃ z, z = h1 := ⟨_, rfl⟩
      rw [← eh92] at hq ⊢
      clear eh92
      show mv_rq l G mX3_valueOf (d + 1) 95 [some (.ref u0), some (.ref u1), some (.int u2), some (.int u3), none] [va_rf x92] h92 _
      exact q_aret (rt := (.object "TreePaths$Value")) dX3_valueOf_95 rfl (Or.inl ⟨_, rfl⟩) (va_rf_or _) hq
    ·
      have hq := vif_f hq c9_1
      by_cases c9_2 : x6 = 3
      ·
        have hq := vif_t hq c9_2
        have t9 := md_ti (i := 3) (by decide) c9_2
        refine q_tableIn (off := 87) (tgt := 96) dX3_valueOf_9 (by rw [t9]; decide) (by rw [t9]; decide) (by rw [t9]; rfl) (by decide) ?_
        refine q_aload_n dX3_valueOf_96 rfl ?_
        obtain ⟨fs97, x97, f97, g97, hq⟩ := vgb_e hq
        refine q_getf (k := 3) (T := TX10) (C0 := RX10) (N := 4) (ci := 12) dX3_valueOf_97 fl_RX3_232 rfl uin_RX10 (by decide) rfl f97 g97 ?_
        refine q_iconst (v := 3) dX3_valueOf_100 (by decide) ?_
        refine q_aload_n dX3_valueOf_101 rfl ?_
        refine q_aload_n dX3_valueOf_102 rfl ?_
        obtain ⟨fs103, x103, f103, g103, hq⟩ := vgb_e hq
        refine q_getf (k := 1) (T := TX10) (C0 := RX10) (N := 4) (ci := 12) dX3_valueOf_103 fl_RX3_228 rfl uin_RX10 (by decide) rfl f103 g103 ?_
        refine q_iload_n dX3_valueOf_106 rfl ?_
        refine q_iload_n dX3_valueOf_107 rfl ?_
        refine q_iconst (v := 1) dX3_valueOf_108 (by decide) ?_
        refine q_iadd dX3_valueOf_109 ?_
        obtain ⟨⟨fs110, f110⟩, hq⟩ := vob_e hq
        refine q_cV (Y := mX3_follow) (As := [.ref x103, .int u2, .int (u3 + 1)]) (st := [.int 3, .ref x97]) (b := u0) (ci := 5) vc_X3_follow dX3_valueOf_110 ml_RX3_26 rfl f110 rfl (Nat.le_of_ble_eq_true rfl) rfl (Nat.le_of_ble_eq_true rfl) hq (fun v h1 hq1 => ?_) (fun E h1 hq1 => ?_)
        rotate_left
        ·
          rcases hq1 with hq1 | ⟨E1, e1, hq1⟩
          · obtain ⟨_, z, _⟩ := hq1; exact nomatch z
          · obtain rfl := Sum.inr.inj e1; exact q_xout (fun z hz => nomatch hz) hq1
        rcases hq1 with hq1 | ⟨E1, e1, hq1⟩
        rotate_left
        · exact nomatch e1
        obtain ⟨x110, hv, hq⟩ := hq1
        obtain rfl := Sum.inl.inj hv
        clear hv
        obtain ⟨h110, eh110⟩ : ∃ z, z = h1 := ⟨_, rfl⟩
        rw [← eh110] at hq ⊢
        clear eh110
        show mv_rq l G mX3_valueOf (d + 1) 113 [some (.ref u0), some (.ref u1), some (.int u2), some (.int u3), none] [.ref x110, .int 3, .ref x97] h110 _
        obtain ⟨fs113, x113, f113, g113, hq⟩ := vgi_e hq
        refine q_getf (k := 1) (T := TX6) (C0 := RX6) (N := 2) (ci := 8) dX3_valueOf_113 fl_RX3_57 rfl uin_RX6 (by decide) rfl f113 g113 ?_
        obtain ⟨a116, ea116, hq⟩ := vst_e hq
        refine q_ldcS dX3_valueOf_116 ea116 ?_
        obtain ⟨⟨fs118, f118⟩, hq⟩ := vob_e hq
        refine q_cV (Y := mX11_become) (As := [.int 3, .int x113, .ref a116]) (st := []) (b := x97) (ci := 13) vc_X11_become dX3_valueOf_118 ml_RX3_242 rfl f118 rfl (Nat.le_of_ble_eq_true rfl) rfl (Nat.le_of_ble_eq_true rfl) hq (fun v h1 hq1 => ?_) (fun E h1 hq1 => ?_)
        rotate_left
        ·
          rcases hq1 with hq1 | ⟨E1, e1, hq1⟩
          · exact nomatch hq1.1
          · obtain rfl := Sum.inr.inj e1; exact q_xout (fun z hz => nomatch hz) hq1
        rcases hq1 with hq1 | ⟨E1, e1, hq1⟩
        rotate_left
        · exact nomatch e1
        obtain ⟨hv, hq⟩ := hq1
        obtain rfl := Sum.inl.inj hv
        clear hv
        obtain ⟨h118, eh118⟩ : ∃ z, z = h1 := ⟨_, rfl⟩
        rw [← eh118] at hq ⊢
        clear eh118
        show mv_rq l G mX3_valueOf (d + 1) 121 [some (.ref u0), some (.ref u1), some (.int u2), some (.int u3), none] [] h118 _
        refine q_aload_n dX3_valueOf_121 rfl ?_
        obtain ⟨fs122, x122, f122, g122, hq⟩ := vgb_e hq
        refine q_getf (k := 3) (T := TX10) (C0 := RX10) (N := 4) (ci := 12) dX3_valueOf_122 fl_RX3_232 rfl uin_RX10 (by decide) rfl f122 g122 ?_
        exact q_aret (rt := (.object "TreePaths$Value")) dX3_valueOf_125 rfl (Or.inl ⟨_, rfl⟩) (Or.inr ⟨_, rfl⟩) hq
      ·
        have hq := vif_f hq c9_2
        refine q_tableOut (tgt := 126) dX3_valueOf_9 (by have e0 := md_tn (i := 1) (by decide) c9_0; have e1 := md_tn (i := 2) (by decide) c9_1; have e2 := md_tn (i := 3) (by decide) c9_2; omega) (by decide) ?_
        refine q_aload_n dX3_valueOf_126 rfl ?_
        obtain ⟨fs127, x127, f127, g127, hq⟩ := vgb_e hq
        refine q_getf (k := 3) (T := TX10) (C0 := RX10) (N := 4) (ci := 12) dX3_valueOf_127 fl_RX3_232 rfl uin_RX10 (by decide) rfl f127 g127 ?_
        exact q_aret (rt := (.object "TreePaths$Value")) dX3_valueOf_130 rfl (Or.inl ⟨_, rfl⟩) (Or.inr ⟨_, rfl⟩) hq
def w_X3_lengthOf (l : Launch) (G : mv_G) (d : Nat) (u0 : Option Nat) (u1 : Nat) (h : mv_H) (Q : mv_O → mv_H → Prop) : Prop :=
  vnl u0 (
    Q (.inl (some (.null))) h) (fun a1 =>
    vgi h a1 13 0 fun x5 =>
    vif (4 ≤ x5) (
      vgi h a1 13 1 fun x17 =>
      vst G RX3 240 "" fun a20 =>
      vob h u1 13 (
      mv_rq l G mX11_become d 0 (mv_in [.ref u1, .int 3, .int x17, .ref a20] 4) [] h (vU (fun E h1 => Q (.inr E) h1) (fun h22 =>
      Q (.inl (some (.ref u1))) h22)))) (
      Q (.inl (some (.null))) h))
theorem v_X3_lengthOf {l : Launch} {G : mv_G} {d : Nat} {u0 : Option Nat} {u1 : Nat} {h : mv_H} {Q : mv_O → mv_H → Prop} (hG : mv_ok G) (hq : w_X3_lengthOf l G d u0 u1 h Q) : mv_rq l G mX3_lengthOf (d + 1) 0 (mv_in [va_rf u0, .ref u1] 2) [] h Q := by
  unfold w_X3_lengthOf at hq
  rw [show mv_in [va_rf u0, .ref u1] 2 = [some (va_rf u0), some (.ref u1)] by cases u0 <;> rfl]
  show mv_rq l G mX3_lengthOf (d + 1) 0 [some (va_rf u0), some (.ref u1)] [] h _
  refine q_aload_nV dX3_lengthOf_0 rfl ?_
  refine q_ifnullV (tgt := 12) dX3_lengthOf_1 (by decide) (fun c1 => ?_) (fun a1 c1 => ?_)
  ·
    have hz := vnl_n hq c1
    clear hq
    subst c1
    have hq := hz
    clear hz
    show mv_rq l G mX3_lengthOf (d + 1) 12 [some (.null), some (.ref u1)] [] h _
    refine q_null dX3_lengthOf_12 ?_
    exact q_aret (rt := (.object "TreePaths$Value")) dX3_lengthOf_13 rfl (Or.inl ⟨_, rfl⟩) (Or.inl rfl) hq
  ·
    have hz := vnl_s hq c1
    clear hq
    subst c1
    have hq := hz
    clear hz
    show mv_rq l G mX3_lengthOf (d + 1) 4 [some (.ref a1), some (.ref u1)] [] h _
    refine q_aload_n dX3_lengthOf_4 rfl ?_
    obtain ⟨fs5, x5, f5, g5, hq⟩ := vgi_e hq
    refine q_getf (k := 0) (T := TX11) (C0 := RX11) (N := 10) (ci := 13) dX3_lengthOf_5 fl_RX3_145 rfl uin_RX11 (by decide) rfl f5 g5 ?_
    refine q_iconst (v := 4) dX3_lengthOf_8 (by decide) ?_
    refine q_icmp_ge (tgt := 14) dX3_lengthOf_9 (by decide) (fun c9 => ?_) (fun c9 => ?_)
    ·
      have hq := vif_t hq c9
      refine q_aload_n dX3_lengthOf_14 rfl ?_
      refine q_iconst (v := 3) dX3_lengthOf_15 (by decide) ?_
      refine q_aload_n dX3_lengthOf_16 rfl ?_
      obtain ⟨fs17, x17, f17, g17, hq⟩ := vgi_e hq
      refine q_getf (k := 1) (T := TX11) (C0 := RX11) (N := 10) (ci := 13) dX3_lengthOf_17 fl_RX3_146 rfl uin_RX11 (by decide) rfl f17 g17 ?_
      obtain ⟨a20, ea20, hq⟩ := vst_e hq
      refine q_ldcS dX3_lengthOf_20 ea20 ?_
      obtain ⟨⟨fs22, f22⟩, hq⟩ := vob_e hq
      refine q_cV (Y := mX11_become) (As := [.int 3, .int x17, .ref a20]) (st := []) (b := u1) (ci := 13) vc_X11_become dX3_lengthOf_22 ml_RX3_242 rfl f22 rfl (Nat.le_of_ble_eq_true rfl) rfl (Nat.le_of_ble_eq_true rfl) hq (fun v h1 hq1 => ?_) (fun E h1 hq1 => ?_)
      rotate_left
      ·
        rcases hq1 with hq1 | ⟨E1, e1, hq1⟩
        · exact nomatch hq1.1
        · obtain rfl := Sum.inr.inj e1; exact q_xout (fun z hz => nomatch hz) hq1
      rcases hq1 with hq1 | ⟨E1, e1, hq1⟩
      rotate_left
      · exact nomatch e1
      obtain ⟨hv, hq⟩ := hq1
      obtain rfl := Sum.inl.inj hv
      clear hv
      obtain ⟨h22, eh22⟩ : ∃ z, z = h1 := ⟨_, rfl⟩
      rw [← eh22] at hq ⊢
      clear eh22
      show mv_rq l G mX3_lengthOf (d + 1) 25 [some (.ref a1), some (.ref u1)] [] h22 _
      refine q_aload_n dX3_lengthOf_25 rfl ?_
      exact q_aret (rt := (.object "TreePaths$Value")) dX3_lengthOf_26 rfl (Or.inl ⟨_, rfl⟩) (Or.inr ⟨_, rfl⟩) hq
    ·
      have hq := vif_f hq c9
      refine q_null dX3_lengthOf_12 ?_
      exact q_aret (rt := (.object "TreePaths$Value")) dX3_lengthOf_13 rfl (Or.inl ⟨_, rfl⟩) (Or.inl rfl) hq
def w_X3_compare (l : Launch) (G : mv_G) (d : Nat) (u0 : Nat) (u1 : Option Nat) (u2 : Int32) (u3 : Option Nat) (h : mv_H) (Q : mv_O → mv_H → Prop) : Prop :=
  vif (u2 = 0) (
    vob h u0 5 (
    mv_rq l G mX3_equal d 0 (mv_in [.ref u0, va_rf u1, va_rf u3, .int 0] 4) [] h (vI (fun E h1 => Q (.inr E) h1) (fun x40 h40 =>
    narrow .boolean (.int x40) = .int x40 ∧
    Q (.inl (some (.int x40))) h40)))) (
  vif (u2 = 1) (
    vob h u0 5 (
    mv_rq l G mX3_equal d 0 (mv_in [.ref u0, va_rf u1, va_rf u3, .int 0] 4) [] h (vI (fun E h1 => Q (.inr E) h1) (fun x48 h48 =>
    vif (x48 = 0) (
      Q (.inl (some (.int 1))) h48) (
      Q (.inl (some (.int 0))) h48))))) (
  vif (u2 = 2) (
    mv_rq l G mX3_less d 0 (mv_in [va_rf u1, va_rf u3] 2) [] h (vI (fun E h1 => Q (.inr E) h1) (fun x62 h62 =>
    narrow .boolean (.int x62) = .int x62 ∧
    Q (.inl (some (.int x62))) h62))) (
  vif (u2 = 3) (
    mv_rq l G mX3_less d 0 (mv_in [va_rf u1, va_rf u3] 2) [] h (vI (fun E h1 => Q (.inr E) h1) (fun x68 h68 =>
    vif (x68 = 0) (
      vob h68 u0 5 (
      mv_rq l G mX3_equal d 0 (mv_in [.ref u0, va_rf u1, va_rf u3, .int 0] 4) [] h68 (vI (fun E h1 => Q (.inr E) h1) (fun x78 h78 =>
      vif (x78 = 0) (
        Q (.inl (some (.int 0))) h78) (
        Q (.inl (some (.int 1))) h78))))) (
      Q (.inl (some (.int 1))) h68)))) (
  vif (u2 = 4) (
    mv_rq l G mX3_less d 0 (mv_in [va_rf u3, va_rf u1] 2) [] h (vI (fun E h1 => Q (.inr E) h1) (fun x92 h92 =>
    narrow .boolean (.int x92) = .int x92 ∧
    Q (.inl (some (.int x92))) h92))) (
    mv_rq l G mX3_less d 0 (mv_in [va_rf u3, va_rf u1] 2) [] h (vI (fun E h1 => Q (.inr E) h1) (fun x98 h98 =>
    vif (x98 = 0) (
      vob h98 u0 5 (
      mv_rq l G mX3_equal d 0 (mv_in [.ref u0, va_rf u1, va_rf u3, .int 0] 4) [] h98 (vI (fun E h1 => Q (.inr E) h1) (fun x108 h108 =>
      vif (x108 = 0) (
        Q (.inl (some (.int 0))) h108) (
        Q (.inl (some (.int 1))) h108))))) (
      Q (.inl (some (.int 1))) h98))))))))
theorem v_X3_compare {l : Launch} {G : mv_G} {d : Nat} {u0 : Nat} {u1 : Option Nat} {u2 : Int32} {u3 : Option Nat} {h : mv_H} {Q : mv_O → mv_H → Prop} (hG : mv_ok G) (hq : w_X3_compare l G d u0 u1 u2 u3 h Q) : mv_rq l G mX3_compare (d + 1) 0 (mv_in [.ref u0, va_rf u1, .int u2, va_rf u3] 4) [] h Q := by
  unfold w_X3_compare at hq
  rw [show mv_in [.ref u0, va_rf u1, .int u2, va_rf u3] 4 = [some (.ref u0), some (va_rf u1), some (.int u2), some (va_rf u3)] by cases u1 <;> cases u3 <;> rfl]
  show mv_rq l G mX3_compare (d + 1) 0 [some (.ref u0), some (va_rf u1), some (.int u2), some (va_rf u3)] [] h _
  refine q_iload_n dX3_compare_0 rfl ?_
  by_cases c1_0 : u2 = 0
  ·
    have hq := vif_t hq c1_0
    have t1 := md_ti (i := 0) (by decide) c1_0
    refine q_tableIn (off := 35) (tgt := 36) dX3_compare_1 (by rw [t1]; decide) (by rw [t1]; decide) (by rw [t1]; rfl) (by decide) ?_
    refine q_aload_n dX3_compare_36 rfl ?_
    refine q_aload_nV dX3_compare_37 rfl ?_
    refine q_aload_nV dX3_compare_38 rfl ?_
    refine q_iconst (v := 0) dX3_compare_39 (by decide) ?_
    obtain ⟨⟨fs40, f40⟩, hq⟩ := vob_e hq
    refine q_cV (Y := mX3_equal) (As := [va_rf u1, va_rf u3, .int 0]) (st := []) (b := u0) (ci := 5) vc_X3_equal dX3_compare_40 ml_RX3_246 rfl f40 rfl (by cases u1 <;> cases u3 <;> exact (Nat.le_of_ble_eq_true rfl)) rfl (by cases u1 <;> cases u3 <;> exact (Nat.le_of_ble_eq_true rfl)) hq (fun v h1 hq1 => ?_) (fun E h1 hq1 => ?_)
    rotate_left
    ·
      rcases hq1 with hq1 | ⟨E1, e1, hq1⟩
      · obtain ⟨_, z, _⟩ := hq1; exact nomatch z
      · obtain rfl := Sum.inr.inj e1; exact q_xout (fun z hz => nomatch hz) hq1
    rcases hq1 with hq1 | ⟨E1, e1, hq1⟩
    rotate_left
    · exact nomatch e1
    obtain ⟨x40, hv, hq⟩ := hq1
    obtain rfl := Sum.inl.inj hv
    clear hv
    obtain ⟨h40, eh40⟩ : ∃ z, z = h1 := ⟨_, rfl⟩
    rw [← eh40] at hq ⊢
    clear eh40
    show mv_rq l G mX3_compare (d + 1) 43 [some (.ref u0), some (va_rf u1), some (.int u2), some (va_rf u3)] [.int x40] h40 _
    obtain ⟨nr43, hq⟩ := hq
    exact q_iret (ty := .boolean) dX3_compare_43 rfl nr43 hq
  ·
    have hq := vif_f hq c1_0
    by_cases c1_1 : u2 = 1
    ·
      have hq := vif_t hq c1_1
      have t1 := md_ti (i := 1) (by decide) c1_1
      refine q_tableIn (off := 43) (tgt := 44) dX3_compare_1 (by rw [t1]; decide) (by rw [t1]; decide) (by rw [t1]; rfl) (by decide) ?_
      refine q_aload_n dX3_compare_44 rfl ?_
      refine q_aload_nV dX3_compare_45 rfl ?_
      refine q_aload_nV dX3_compare_46 rfl ?_
      refine q_iconst (v := 0) dX3_compare_47 (by decide) ?_
      obtain ⟨⟨fs48, f48⟩, hq⟩ := vob_e hq
      refine q_cV (Y := mX3_equal) (As := [va_rf u1, va_rf u3, .int 0]) (st := []) (b := u0) (ci := 5) vc_X3_equal dX3_compare_48 ml_RX3_246 rfl f48 rfl (by cases u1 <;> cases u3 <;> exact (Nat.le_of_ble_eq_true rfl)) rfl (by cases u1 <;> cases u3 <;> exact (Nat.le_of_ble_eq_true rfl)) hq (fun v h1 hq1 => ?_) (fun E h1 hq1 => ?_)
      rotate_left
      ·
        rcases hq1 with hq1 | ⟨E1, e1, hq1⟩
        · obtain ⟨_, z, _⟩ := hq1; exact nomatch z
        · obtain rfl := Sum.inr.inj e1; exact q_xout (fun z hz => nomatch hz) hq1
      rcases hq1 with hq1 | ⟨E1, e1, hq1⟩
      rotate_left
      · exact nomatch e1
      obtain ⟨x48, hv, hq⟩ := hq1
      obtain rfl := Sum.inl.inj hv
      clear hv
      obtain ⟨h48, eh48⟩ : ∃ z, z = h1 := ⟨_, rfl⟩
      rw [← eh48] at hq ⊢
      clear eh48
      show mv_rq l G mX3_compare (d + 1) 51 [some (.ref u0), some (va_rf u1), some (.int u2), some (va_rf u3)] [.int x48] h48 _
      refine q_if_ne (tgt := 58) dX3_compare_51 (by decide) (fun c51 => ?_) (fun c51 => ?_)
      ·
        have hq := vif_f hq c51
        refine q_iconst (v := 0) dX3_compare_58 (by decide) ?_
        exact q_iret (ty := .boolean) dX3_compare_59 rfl rfl hq
      ·
        have hq := vif_t hq c51
        refine q_iconst (v := 1) dX3_compare_54 (by decide) ?_
        refine q_goto (tgt := 59) dX3_compare_55 (by decide) ?_
        exact q_iret (ty := .boolean) dX3_compare_59 rfl rfl hq
    ·
      have hq := vif_f hq c1_1
      by_cases c1_2 : u2 = 2
      ·
        have hq := vif_t hq c1_2
        have t1 := md_ti (i := 2) (by decide) c1_2
        refine q_tableIn (off := 59) (tgt := 60) dX3_compare_1 (by rw [t1]; decide) (by rw [t1]; decide) (by rw [t1]; rfl) (by decide) ?_
        refine q_aload_nV dX3_compare_60 rfl ?_
        refine q_aload_nV dX3_compare_61 rfl ?_
        refine q_cS (Y := mX3_less) (As := [va_rf u1, va_rf u3]) (st := []) sc_X3_less dX3_compare_62 ml_RX3_250 rfl (by cases u1 <;> cases u3 <;> exact (Nat.le_of_ble_eq_true rfl)) rfl (by cases u1 <;> cases u3 <;> exact (Nat.le_of_ble_eq_true rfl)) hq (fun v h1 hq1 => ?_) (fun E h1 hq1 => ?_)
        rotate_left
        ·
          rcases hq1 with hq1 | ⟨E1, e1, hq1⟩
          · obtain ⟨_, z, _⟩ := hq1; exact nomatch z
          · obtain rfl := Sum.inr.inj e1; exact q_xout (fun z hz => nomatch hz) hq1
        rcases hq1 with hq1 | ⟨E1, e1, hq1⟩
        rotate_left
        · exact nomatch e1
        obtain ⟨x62, hv, hq⟩ := hq1
        obtain rfl := Sum.inl.inj hv
        clear hv
        obtain ⟨h62, eh62⟩ : ∃ z, z = h1 := ⟨_, rfl⟩
        rw [← eh62] at hq ⊢
        clear eh62
        show mv_rq l G mX3_compare (d + 1) 65 [some (.ref u0), some (va_rf u1), some (.int u2), some (va_rf u3)] [.int x62] h62 _
        obtain ⟨nr65, hq⟩ := hq
        exact q_iret (ty := .boolean) dX3_compare_65 rfl nr65 hq
      ·
        have hq := vif_f hq c1_2
        by_cases c1_3 : u2 = 3
        ·
          have hq := vif_t hq c1_3
          have t1 := md_ti (i := 3) (by decide) c1_3
          refine q_tableIn (off := 65) (tgt := 66) dX3_compare_1 (by rw [t1]; decide) (by rw [t1]; decide) (by rw [t1]; rfl) (by decide) ?_
          refine q_aload_nV dX3_compare_66 rfl ?_
          refine q_aload_nV dX3_compare_67 rfl ?_
          refine q_cS (Y := mX3_less) (As := [va_rf u1, va_rf u3]) (st := []) sc_X3_less dX3_compare_68 ml_RX3_250 rfl (by cases u1 <;> cases u3 <;> exact (Nat.le_of_ble_eq_true rfl)) rfl (by cases u1 <;> cases u3 <;> exact (Nat.le_of_ble_eq_true rfl)) hq (fun v h1 hq1 => ?_) (fun E h1 hq1 => ?_)
          rotate_left
          ·
            rcases hq1 with hq1 | ⟨E1, e1, hq1⟩
            · obtain ⟨_, z, _⟩ := hq1; exact nomatch z
            · obtain rfl := Sum.inr.inj e1; exact q_xout (fun z hz => nomatch hz) hq1
          rcases hq1 with hq1 | ⟨E1, e1, hq1⟩
          rotate_left
          · exact nomatch e1
          obtain ⟨x68, hv, hq⟩ := hq1
          obtain rfl := Sum.inl.inj hv
          clear hv
          obtain ⟨h68, eh68⟩ : ∃ z, z = h1 := ⟨_, rfl⟩
          rw [← eh68] at hq ⊢
          clear eh68
          show mv_rq l G mX3_compare (d + 1) 71 [some (.ref u0), some (va_rf u1), some (.int u2), some (va_rf u3)] [.int x68] h68 _
          refine q_if_ne (tgt := 84) dX3_compare_71 (by decide) (fun c71 => ?_) (fun c71 => ?_)
          ·
            have hq := vif_f hq c71
            refine q_iconst (v := 1) dX3_compare_84 (by decide) ?_
            refine q_goto (tgt := 89) dX3_compare_85 (by decide) ?_
            exact q_iret (ty := .boolean) dX3_compare_89 rfl rfl hq
          ·
            have hq := vif_t hq c71
            refine q_aload_n dX3_compare_74 rfl ?_
            refine q_aload_nV dX3_compare_75 rfl ?_
            refine q_aload_nV dX3_compare_76 rfl ?_
            refine q_iconst (v := 0) dX3_compare_77 (by decide) ?_
            obtain ⟨⟨fs78, f78⟩, hq⟩ := vob_e hq
            refine q_cV (Y := mX3_equal) (As := [va_rf u1, va_rf u3, .int 0]) (st := []) (b := u0) (ci := 5) vc_X3_equal dX3_compare_78 ml_RX3_246 rfl f78 rfl (by cases u1 <;> cases u3 <;> exact (Nat.le_of_ble_eq_true rfl)) rfl (by cases u1 <;> cases u3 <;> exact (Nat.le_of_ble_eq_true rfl)) hq (fun v h1 hq1 => ?_) (fun E h1 hq1 => ?_)
            rotate_left
            ·
              rcases hq1 with hq1 | ⟨E1, e1, hq1⟩
              · obtain ⟨_, z, _⟩ := hq1; exact nomatch z
              · obtain rfl := Sum.inr.inj e1; exact q_xout (fun z hz => nomatch hz) hq1
            rcases hq1 with hq1 | ⟨E1, e1, hq1⟩
            rotate_left
            · exact nomatch e1
            obtain ⟨x78, hv, hq⟩ := hq1
            obtain rfl := Sum.inl.inj hv
            clear hv
            obtain ⟨h78, eh78⟩ : ∃ z, z = h1 := ⟨_, rfl⟩
            rw [← eh78] at hq ⊢
            clear eh78
            show mv_rq l G mX3_compare (d + 1) 81 [some (.ref u0), some (va_rf u1), some (.int u2), some (va_rf u3)] [.int x78] h78 _
            refine q_if_eq (tgt := 88) dX3_compare_81 (by decide) (fun c81 => ?_) (fun c81 => ?_)
            ·
              have hq := vif_t hq c81
              refine q_iconst (v := 0) dX3_compare_88 (by decide) ?_
              exact q_iret (ty := .boolean) dX3_compare_89 rfl rfl hq
            ·
              have hq := vif_f hq c81
              refine q_iconst (v := 1) dX3_compare_84 (by decide) ?_
              refine q_goto (tgt := 89) dX3_compare_85 (by decide) ?_
              exact q_iret (ty := .boolean) dX3_compare_89 rfl rfl hq
        ·
          have hq := vif_f hq c1_3
          by_cases c1_4 : u2 = 4
          ·
            have hq := vif_t hq c1_4
            have t1 := md_ti (i := 4) (by decide) c1_4
            refine q_tableIn (off := 89) (tgt := 90) dX3_compare_1 (by rw [t1]; decide) (by rw [t1]; decide) (by rw [t1]; rfl) (by decide) ?_
            refine q_aload_nV dX3_compare_90 rfl ?_
            refine q_aload_nV dX3_compare_91 rfl ?_
            refine q_cS (Y := mX3_less) (As := [va_rf u3, va_rf u1]) (st := []) sc_X3_less dX3_compare_92 ml_RX3_250 rfl (by cases u3 <;> cases u1 <;> exact (Nat.le_of_ble_eq_true rfl)) rfl (by cases u3 <;> cases u1 <;> exact (Nat.le_of_ble_eq_true rfl)) hq (fun v h1 hq1 => ?_) (fun E h1 hq1 => ?_)
            rotate_left
            ·
              rcases hq1 with hq1 | ⟨E1, e1, hq1⟩
              · obtain ⟨_, z, _⟩ := hq1; exact nomatch z
              · obtain rfl := Sum.inr.inj e1; exact q_xout (fun z hz => nomatch hz) hq1
            rcases hq1 with hq1 | ⟨E1, e1, hq1⟩
            rotate_left
            · exact nomatch e1
            obtain ⟨x92, hv, hq⟩ := hq1
            obtain rfl := Sum.inl.inj hv
            clear hv
            obtain ⟨h92, eh92⟩ : ∃ z, z = h1 := ⟨_, rfl⟩
            rw [← eh92] at hq ⊢
            clear eh92
            show mv_rq l G mX3_compare (d + 1) 95 [some (.ref u0), some (va_rf u1), some (.int u2), some (va_rf u3)] [.int x92] h92 _
            obtain ⟨nr95, hq⟩ := hq
            exact q_iret (ty := .boolean) dX3_compare_95 rfl nr95 hq
          ·
            have hq := vif_f hq c1_4
            refine q_tableOut (tgt := 96) dX3_compare_1 (by have e0 := md_tn (i := 0) (by decide) c1_0; have e1 := md_tn (i := 1) (by decide) c1_1; have e2 := md_tn (i := 2) (by decide) c1_2; have e3 := md_tn (i := 3) (by decide) c1_3; have e4 := md_tn (i := 4) (by decide) c1_4; omega) (by decide) ?_
            refine q_aload_nV dX3_compare_96 rfl ?_
            refine q_aload_nV dX3_compare_97 rfl ?_
            refine q_cS (Y := mX3_less) (As := [va_rf u3, va_rf u1]) (st := []) sc_X3_less dX3_compare_98 ml_RX3_250 rfl (by cases u3 <;> cases u1 <;> exact (Nat.le_of_ble_eq_true rfl)) rfl (by cases u3 <;> cases u1 <;> exact (Nat.le_of_ble_eq_true rfl)) hq (fun v h1 hq1 => ?_) (fun E h1 hq1 => ?_)
            rotate_left
            ·
              rcases hq1 with hq1 | ⟨E1, e1, hq1⟩
              · obtain ⟨_, z, _⟩ := hq1; exact nomatch z
              · obtain rfl := Sum.inr.inj e1; exact q_xout (fun z hz => nomatch hz) hq1
            rcases hq1 with hq1 | ⟨E1, e1, hq1⟩
            rotate_left
            · exact nomatch e1
            obtain ⟨x98, hv, hq⟩ := hq1
            obtain rfl := Sum.inl.inj hv
            clear hv
            obtain ⟨h98, eh98⟩ : ∃ z, z = h1 := ⟨_, rfl⟩
            rw [← eh98] at hq ⊢
            clear eh98
            show mv_rq l G mX3_compare (d + 1) 101 [some (.ref u0), some (va_rf u1), some (.int u2), some (va_rf u3)] [.int x98] h98 _
            refine q_if_ne (tgt := 114) dX3_compare_101 (by decide) (fun c101 => ?_) (fun c101 => ?_)
            ·
              have hq := vif_f hq c101
              refine q_iconst (v := 1) dX3_compare_114 (by decide) ?_
              refine q_goto (tgt := 119) dX3_compare_115 (by decide) ?_
              exact q_iret (ty := .boolean) dX3_compare_119 rfl rfl hq
            ·
              have hq := vif_t hq c101
              refine q_aload_n dX3_compare_104 rfl ?_
              refine q_aload_nV dX3_compare_105 rfl ?_
              refine q_aload_nV dX3_compare_106 rfl ?_
              refine q_iconst (v := 0) dX3_compare_107 (by decide) ?_
              obtain ⟨⟨fs108, f108⟩, hq⟩ := vob_e hq
              refine q_cV (Y := mX3_equal) (As := [va_rf u1, va_rf u3, .int 0]) (st := []) (b := u0) (ci := 5) vc_X3_equal dX3_compare_108 ml_RX3_246 rfl f108 rfl (by cases u1 <;> cases u3 <;> exact (Nat.le_of_ble_eq_true rfl)) rfl (by cases u1 <;> cases u3 <;> exact (Nat.le_of_ble_eq_true rfl)) hq (fun v h1 hq1 => ?_) (fun E h1 hq1 => ?_)
              rotate_left
              ·
                rcases hq1 with hq1 | ⟨E1, e1, hq1⟩
                · obtain ⟨_, z, _⟩ := hq1; exact nomatch z
                · obtain rfl := Sum.inr.inj e1; exact q_xout (fun z hz => nomatch hz) hq1
              rcases hq1 with hq1 | ⟨E1, e1, hq1⟩
              rotate_left
              · exact nomatch e1
              obtain ⟨x108, hv, hq⟩ := hq1
              obtain rfl := Sum.inl.inj hv
              clear hv
              obtain ⟨h108, eh108⟩ : ∃ z, z = h1 := ⟨_, rfl⟩
              rw [← eh108] at hq ⊢
              clear eh108
              show mv_rq l G mX3_compare (d + 1) 111 [some (.ref u0), some (va_rf u1), some (.int u2), some (va_rf u3)] [.int x108] h108 _
              refine q_if_eq (tgt := 118) dX3_compare_111 (by decide) (fun c111 => ?_) (fun c111 => ?_)
              ·
                have hq := vif_t hq c111
                refine q_iconst (v := 0) dX3_compare_118 (by decide) ?_
                exact q_iret (ty := .boolean) dX3_compare_119 rfl rfl hq
              ·
                have hq := vif_f hq c111
                refine q_iconst (v := 1) dX3_compare_114 (by decide) ?_
                refine q_goto (tgt := 119) dX3_compare_115 (by decide) ?_
                exact q_iret (ty := .boolean) dX3_compare_119 rfl rfl hq
def w_X3_equal (l : Launch) (G : mv_G) (d : Nat) (u0 : Nat) (u1 : Option Nat) (u2 : Option Nat) (u3 : Int32) (h : mv_H) (Q : mv_O → mv_H → Prop) : Prop :=
  vif (u1 = u2) (
    Q (.inl (some (.int 1))) h) (
    vnl u1 (
      Q (.inl (some (.int 0))) h) (fun a8 =>
      vnl u2 (
        Q (.inl (some (.int 0))) h) (fun a12 =>
        vgi h a8 13 0 fun x16 =>
        vgi h a12 13 0 fun x20 =>
        vif (x16 = x20) (
          vif (u3 ≤ 6) (
            vgi h a8 13 0 fun x35 =>
            vif (x35 = 3) (
              vgi h a8 13 1 fun x69 =>
              vgi h a12 13 1 fun x73 =>
              vif (x69 = x73) (
                Q (.inl (some (.int 1))) h) (
                Q (.inl (some (.int 0))) h)) (
            vif (x35 = 4) (
              vgb h a8 13 2 fun x86 =>
              vgb h a12 13 2 fun x90 =>
              vob h x86 0 (
              mv_rq l G mJ0_equals_9ea2d d 0 (mv_in [.ref x86, .ref x90] 3) [] h (vI (fun E h1 => Q (.inr E) h1) (fun x93 h93 =>
              narrow .boolean (.int x93) = .int x93 ∧
              Q (.inl (some (.int x93))) h93)))) (
            vif (x35 = 5) (
              vgi h a8 13 1 fun x98 =>
              vgi h a12 13 1 fun x102 =>
              vif (x98 = x102) (
                vob h u0 5 (
                mv_rq l G mX3_equalChildren d 0 (mv_in [.ref u0, .ref a8, .ref a12, .int u3] 7) [] h (vI (fun E h1 => Q (.inr E) h1) (fun x112 h112 =>
                vif (x112 = 0) (
                  Q (.inl (some (.int 0))) h112) (
                  Q (.inl (some (.int 1))) h112))))) (
                Q (.inl (some (.int 0))) h)) (
            vif (x35 = 6) (
              vgi h a8 13 1 fun x98 =>
              vgi h a12 13 1 fun x102 =>
              vif (x98 = x102) (
                vob h u0 5 (
                mv_rq l G mX3_equalChildren d 0 (mv_in [.ref u0, .ref a8, .ref a12, .int u3] 7) [] h (vI (fun E h1 => Q (.inr E) h1) (fun x112 h112 =>
                vif (x112 = 0) (
                  Q (.inl (some (.int 0))) h112) (
                  Q (.inl (some (.int 1))) h112))))) (
                Q (.inl (some (.int 0))) h)) (
              Q (.inl (some (.int 1))) h))))) (
            Q (.inl (some (.int 0))) h)) (
          Q (.inl (some (.int 0))) h))))
theorem v_X3_equal {l : Launch} {G : mv_G} {d : Nat} {u0 : Nat} {u1 : Option Nat} {u2 : Option Nat} {u3 : Int32} {h : mv_H} {Q : mv_O → mv_H → Prop} (hG : mv_ok G) (hq : w_X3_equal l G d u0 u1 u2 u3 h Q) : mv_rq l G mX3_equal (d + 1) 0 (mv_in [.ref u0, va_rf u1, va_rf u2, .int u3] 4) [] h Q := by
  unfold w_X3_equal at hq
  rw [show mv_in [.ref u0, va_rf u1, va_rf u2, .int u3] 4 = [some (.ref u0), some (va_rf u1), some (va_rf u2), some (.int u3)] by cases u1 <;> cases u2 <;> rfl]
  show mv_rq l G mX3_equal (d + 1) 0 [some (.ref u0), some (va_rf u1), some (va_rf u2), some (.int u3)] [] h _
  refine q_aload_nV dX3_equal_0 rfl ?_
  refine q_aload_nV dX3_equal_1 rfl ?_
  refine q_acmp_ne (rx := u1) (ry := u2) (tgt := 7) dX3_equal_2 (by decide) (fun c2 => ?_) (fun c2 => ?_)
  ·
    have hq := vif_f hq c2
    refine q_aload_nV dX3_equal_7 rfl ?_
    refine q_ifnullV (tgt := 32) dX3_equal_8 (by decide) (fun c8 => ?_) (fun a8 c8 => ?_)
    ·
      have hz := vnl_n hq c8
      clear hq
      subst c8
      have hq := hz
      clear hz
      show mv_rq l G mX3_equal (d + 1) 32 [some (.ref u0), some (.null), some (va_rf u2), some (.int u3)] [] h _
      refine q_iconst (v := 0) dX3_equal_32 (by decide) ?_
      exact q_iret (ty := .boolean) dX3_equal_33 rfl rfl hq
    ·
      have hz := vnl_s hq c8
      clear hq
      subst c8
      have hq := hz
      clear hz
      show mv_rq l G mX3_equal (d + 1) 11 [some (.ref u0), some (.ref a8), some (va_rf u2), some (.int u3)] [] h _
      refine q_aload_nV dX3_equal_11 rfl ?_
      refine q_ifnullV (tgt := 32) dX3_equal_12 (by decide) (fun c12 => ?_) (fun a12 c12 => ?_)
      ·
        have hz := vnl_n hq c12
        clear hq
        subst c12
        have hq := hz
        clear hz
        show mv_rq l G mX3_equal (d + 1) 32 [some (.ref u0), some (.ref a8), some (.null), some (.int u3)] [] h _
        refine q_iconst (v := 0) dX3_equal_32 (by decide) ?_
        exact q_iret (ty := .boolean) dX3_equal_33 rfl rfl hq
      ·
        have hz := vnl_s hq c12
        clear hq
        subst c12
        have hq := hz
        clear hz
        show mv_rq l G mX3_equal (d + 1) 15 [some (.ref u0), some (.ref a8), some (.ref a12), some (.int u3)] [] h _
        refine q_aload_n dX3_equal_15 rfl ?_
        obtain ⟨fs16, x16, f16, g16, hq⟩ := vgi_e hq
        refine q_getf (k := 0) (T := TX11) (C0 := RX11) (N := 10) (ci := 13) dX3_equal_16 fl_RX3_145 rfl uin_RX11 (by decide) rfl f16 g16 ?_
        refine q_aload_n dX3_equal_19 rfl ?_
        obtain ⟨fs20, x20, f20, g20, hq⟩ := vgi_e hq
        refine q_getf (k := 0) (T := TX11) (C0 := RX11) (N := 10) (ci := 13) dX3_equal_20 fl_RX3_145 rfl uin_RX11 (by decide) rfl f20 g20 ?_
        refine q_icmp_ne (tgt := 32) dX3_equal_23 (by decide) (fun c23 => ?_) (fun c23 => ?_)
        ·
          have hq := vif_f hq c23
          refine q_iconst (v := 0) dX3_equal_32 (by decide) ?_
          exact q_iret (ty := .boolean) dX3_equal_33 rfl rfl hq
        ·
          have hq := vif_t hq c23
          refine q_iload_n dX3_equal_26 rfl ?_
          refine q_bipush (v := 6) dX3_equal_27 (by decide) ?_
          refine q_icmp_le (tgt := 34) dX3_equal_29 (by decide) (fun c29 => ?_) (fun c29 => ?_)
          ·
            have hq := vif_t hq c29
            refine q_aload_n dX3_equal_34 rfl ?_
            obtain ⟨fs35, x35, f35, g35, hq⟩ := vgi_e hq
            refine q_getf (k := 0) (T := TX11) (C0 := RX11) (N := 10) (ci := 13) dX3_equal_35 fl_RX3_145 rfl uin_RX11 (by decide) rfl f35 g35 ?_
            by_cases c38_0 : x35 = 3
            ·
              have hq := vif_t hq c38_0
              have t38 := md_ti (i := 3) (by decide) c38_0
              refine q_tableIn (off := 30) (tgt := 68) dX3_equal_38 (by rw [t38]; decide) (by rw [t38]; decide) (by rw [t38]; rfl) (by decide) ?_
              refine q_aload_n dX3_equal_68 rfl ?_
              obtain ⟨fs69, x69, f69, g69, hq⟩ := vgi_e hq
              refine q_getf (k := 1) (T := TX11) (C0 := RX11) (N := 10) (ci := 13) dX3_equal_69 fl_RX3_146 rfl uin_RX11 (by decide) rfl f69 g69 ?_
              refine q_aload_n dX3_equal_72 rfl ?_
              obtain ⟨fs73, x73, f73, g73, hq⟩ := vgi_e hq
              refine q_getf (k := 1) (T := TX11) (C0 := RX11) (N := 10) (ci := 13) dX3_equal_73 fl_RX3_146 rfl uin_RX11 (by decide) rfl f73 g73 ?_
              refine q_icmp_ne (tgt := 83) dX3_equal_76 (by decide) (fun c76 => ?_) (fun c76 => ?_)
              ·
                have hq := vif_f hq c76
                refine q_iconst (v := 0) dX3_equal_83 (by decide) ?_
                exact q_iret (ty := .boolean) dX3_equal_84 rfl rfl hq
              ·
                have hq := vif_t hq c76
                refine q_iconst (v := 1) dX3_equal_79 (by decide) ?_
                refine q_goto (tgt := 84) dX3_equal_80 (by decide) ?_
                exact q_iret (ty := .boolean) dX3_equal_84 rfl rfl hq
            ·
              have hq := vif_f hq c38_0
              by_cases c38_1 : x35 = 4
              ·
                have hq := vif_t hq c38_1
                have t38 := md_ti (i := 4) (by decide) c38_1
                refine q_tableIn (off := 47) (tgt := 85) dX3_equal_38 (by rw [t38]; decide) (by rw [t38]; decide) (by rw [t38]; rfl) (by decide) ?_
                refine q_aload_n dX3_equal_85 rfl ?_
                obtain ⟨fs86, x86, f86, g86, hq⟩ := vgb_e hq
                refine q_getf (k := 2) (T := TX11) (C0 := RX11) (N := 10) (ci := 13) dX3_equal_86 fl_RX3_254 rfl uin_RX11 (by decide) rfl f86 g86 ?_
                refine q_aload_n dX3_equal_89 rfl ?_
                obtain ⟨fs90, x90, f90, g90, hq⟩ := vgb_e hq
                refine q_getf (k := 2) (T := TX11) (C0 := RX11) (N := 10) (ci := 13) dX3_equal_90 fl_RX3_254 rfl uin_RX11 (by decide) rfl f90 g90 ?_
                obtain ⟨⟨fs93, f93⟩, hq⟩ := vob_e hq
                refine q_cV (Y := mJ0_equals_9ea2d) (As := [.ref x90]) (st := []) (b := x86) (ci := 0) vc_J0_equals_9ea2d dX3_equal_93 ml_RX3_257 rfl f93 rfl (Nat.le_of_ble_eq_true rfl) rfl (Nat.le_of_ble_eq_true rfl) hq (fun v h1 hq1 => ?_) (fun E h1 hq1 => ?_)
                rotate_left
                ·
                  rcases hq1 with hq1 | ⟨E1, e1, hq1⟩
                  · obtain ⟨_, z, _⟩ := hq1; exact nomatch z
                  · obtain rfl := Sum.inr.inj e1; exact q_xout (fun z hz => nomatch hz) hq1
                rcases hq1 with hq1 | ⟨E1, e1, hq1⟩
                rotate_left
                · exact nomatch e1
                obtain ⟨x93, hv, hq⟩ := hq1
                obtain rfl := Sum.inl.inj hv
                clear hv
                obtain ⟨h93, eh93⟩ : ∃ z, z = h1 := ⟨_, rfl⟩
                rw [← eh93] at hq ⊢
                clear eh93
                show mv_rq l G mX3_equal (d + 1) 96 [some (.ref u0), some (.ref a8), some (.ref a12), some (.int u3)] [.int x93] h93 _
                obtain ⟨nr96, hq⟩ := hq
                exact q_iret (ty := .boolean) dX3_equal_96 rfl nr96 hq
              ·
                have hq := vif_f hq c38_1
                by_cases c38_2 : x35 = 5
                ·
                  have hq := vif_t hq c38_2
                  have t38 := md_ti (i := 5) (by decide) c38_2
                  refine q_tableIn (off := 59) (tgt := 97) dX3_equal_38 (by rw [t38]; decide) (by rw [t38]; decide) (by rw [t38]; rfl) (by decide) ?_
                  refine q_aload_n dX3_equal_97 rfl ?_
                  obtain ⟨fs98, x98, f98, g98, hq⟩ := vgi_e hq
                  refine q_getf (k := 1) (T := TX11) (C0 := RX11) (N := 10) (ci := 13) dX3_equal_98 fl_RX3_146 rfl uin_RX11 (by decide) rfl f98 g98 ?_
                  refine q_aload_n dX3_equal_101 rfl ?_
                  obtain ⟨fs102, x102, f102, g102, hq⟩ := vgi_e hq
                  refine q_getf (k := 1) (T := TX11) (C0 := RX11) (N := 10) (ci := 13) dX3_equal_102 fl_RX3_146 rfl uin_RX11 (by decide) rfl f102 g102 ?_
                  refine q_icmp_ne (tgt := 122) dX3_equal_105 (by decide) (fun c105 => ?_) (fun c105 => ?_)
                  ·
                    have hq := vif_f hq c105
                    refine q_iconst (v := 0) dX3_equal_122 (by decide) ?_
                    exact q_iret (ty := .boolean) dX3_equal_123 rfl rfl hq
                  ·
                    have hq := vif_t hq c105
                    refine q_aload_n dX3_equal_108 rfl ?_
                    refine q_aload_n dX3_equal_109 rfl ?_
                    refine q_aload_n dX3_equal_110 rfl ?_
                    refine q_iload_n dX3_equal_111 rfl ?_
                    obtain ⟨⟨fs112, f112⟩, hq⟩ := vob_e hq
                    refine q_cV (Y := mX3_equalChildren) (As := [.ref a8, .ref a12, .int u3]) (st := []) (b := u0) (ci := 5) vc_X3_equalChildren dX3_equal_112 ml_RX3_263 rfl f112 rfl (Nat.le_of_ble_eq_true rfl) rfl (Nat.le_of_ble_eq_true rfl) hq (fun v h1 hq1 => ?_) (fun E h1 hq1 => ?_)
                    rotate_left
                    ·
                      rcases hq1 with hq1 | ⟨E1, e1, hq1⟩
                      · obtain ⟨_, z, _⟩ := hq1; exact nomatch z
                      · obtain rfl := Sum.inr.inj e1; exact q_xout (fun z hz => nomatch hz) hq1
                    rcases hq1 with hq1 | ⟨E1, e1, hq1⟩
                    rotate_left
                    · exact nomatch e1
                    obtain ⟨x112, hv, hq⟩ := hq1
                    obtain rfl := Sum.inl.inj hv
                    clear hv
                    obtain ⟨h112, eh112⟩ : ∃ z, z = h1 := ⟨_, rfl⟩
                    rw [← eh112] at hq ⊢
                    clear eh112
                    show mv_rq l G mX3_equal (d + 1) 115 [some (.ref u0), some (.ref a8), some (.ref a12), some (.int u3)] [.int x112] h112 _
                    refine q_if_eq (tgt := 122) dX3_equal_115 (by decide) (fun c115 => ?_) (fun c115 => ?_)
                    ·
                      have hq := vif_t hq c115
                      refine q_iconst (v := 0) dX3_equal_122 (by decide) ?_
                      exact q_iret (ty := .boolean) dX3_equal_123 rfl rfl hq
                    ·
                      have hq := vif_f hq c115
                      refine q_iconst (v := 1) dX3_equal_118 (by decide) ?_
                      refine q_goto (tgt := 123) dX3_equal_119 (by decide) ?_
                      exact q_iret (ty := .boolean) dX3_equal_123 rfl rfl hq
                ·
                  have hq := vif_f hq c38_2
                  by_cases c38_3 : x35 = 6
                  ·
                    have hq := vif_t hq c38_3
                    have t38 := md_ti (i := 6) (by decide) c38_3
                    refine q_tableIn (off := 59) (tgt := 97) dX3_equal_38 (by rw [t38]; decide) (by rw [t38]; decide) (by rw [t38]; rfl) (by decide) ?_
                    refine q_aload_n dX3_equal_97 rfl ?_
                    obtain ⟨fs98, x98, f98, g98, hq⟩ := vgi_e hq
                    refine q_getf (k := 1) (T := TX11) (C0 := RX11) (N := 10) (ci := 13) dX3_equal_98 fl_RX3_146 rfl uin_RX11 (by decide) rfl f98 g98 ?_
                    refine q_aload_n dX3_equal_101 rfl ?_
                    obtain ⟨fs102, x102, f102, g102, hq⟩ := vgi_e hq
                    refine q_getf (k := 1) (T := TX11) (C0 := RX11) (N := 10) (ci := 13) dX3_equal_102 fl_RX3_146 rfl uin_RX11 (by decide) rfl f102 g102 ?_
                    refine q_icmp_ne (tgt := 122) dX3_equal_105 (by decide) (fun c105 => ?_) (fun c105 => ?_)
                    ·
                      have hq := vif_f hq c105
                      refine q_iconst (v := 0) dX3_equal_122 (by decide) ?_
                      exact q_iret (ty := .boolean) dX3_equal_123 rfl rfl hq
                    ·
                      have hq := vif_t hq c105
                      refine q_aload_n dX3_equal_108 rfl ?_
                      refine q_aload_n dX3_equal_109 rfl ?_
                      refine q_aload_n dX3_equal_110 rfl ?_
                      refine q_iload_n dX3_equal_111 rfl ?_
                      obtain ⟨⟨fs112, f112⟩, hq⟩ := vob_e hq
                      refine q_cV (Y := mX3_equalChildren) (As := [.ref a8, .ref a12, .int u3]) (st := []) (b := u0) (ci := 5) vc_X3_equalChildren dX3_equal_112 ml_RX3_263 rfl f112 rfl (Nat.le_of_ble_eq_true rfl) rfl (Nat.le_of_ble_eq_true rfl) hq (fun v h1 hq1 => ?_) (fun E h1 hq1 => ?_)
                      rotate_left
                      ·
                        rcases hq1 with hq1 | ⟨E1, e1, hq1⟩
                        · obtain ⟨_, z, _⟩ := hq1; exact nomatch z
                        · obtain rfl := Sum.inr.inj e1; exact q_xout (fun z hz => nomatch hz) hq1
                      rcases hq1 with hq1 | ⟨E1, e1, hq1⟩
                      rotate_left
                      · exact nomatch e1
                      obtain ⟨x112, hv, hq⟩ := hq1
                      obtain rfl := Sum.inl.inj hv
                      clear hv
                      obtain ⟨h112, eh112⟩ : ∃ z, z = h1 := ⟨_, rfl⟩
                      rw [← eh112] at hq ⊢
                      clear eh112
                      show mv_rq l G mX3_equal (d + 1) 115 [some (.ref u0), some (.ref a8), some (.ref a12), some (.int u3)] [.int x112] h112 _
                      refine q_if_eq (tgt := 122) dX3_equal_115 (by decide) (fun c115 => ?_) (fun c115 => ?_)
                      ·
                        have hq := vif_t hq c115
                        refine q_iconst (v := 0) dX3_equal_122 (by decide) ?_
                        exact q_iret (ty := .boolean) dX3_equal_123 rfl rfl hq
                      ·
                        have hq := vif_f hq c115
                        refine q_iconst (v := 1) dX3_equal_118 (by decide) ?_
                        refine q_goto (tgt := 123) dX3_equal_119 (by decide) ?_
                        exact q_iret (ty := .boolean) dX3_equal_123 rfl rfl hq
                  ·
                    have hq := vif_f hq c38_3
                    refine q_tableOut (tgt := 124) dX3_equal_38 (by have e0 := md_tn (i := 3) (by decide) c38_0; have e1 := md_tn (i := 4) (by decide) c38_1; have e2 := md_tn (i := 5) (by decide) c38_2; have e3 := md_tn (i := 6) (by decide) c38_3; omega) (by decide) ?_
                    refine q_iconst (v := 1) dX3_equal_124 (by decide) ?_
                    exact q_iret (ty := .boolean) dX3_equal_125 rfl rfl hq
          ·
            have hq := vif_f hq c29
            refine q_iconst (v := 0) dX3_equal_32 (by decide) ?_
            exact q_iret (ty := .boolean) dX3_equal_33 rfl rfl hq
  ·
    have hq := vif_t hq c2
    refine q_iconst (v := 1) dX3_equal_5 (by decide) ?_
    exact q_iret (ty := .boolean) dX3_equal_6 rfl rfl hq
def w_X3_equalChildren (l : Launch) (G : mv_G) (d : Nat) (u0 : Nat) (u1 : Nat) (u2 : Nat) (u3 : Int32) (h : mv_H) (Q : mv_O → mv_H → Prop) : Prop :=
  mv_rq l G mX3_equalChildren (d + 1) 3 [some (.ref u0), some (.ref u1), some (.ref u2), some (.int u3), some (.int 0), none, none] [] h Q
theorem v_X3_equalChildren {l : Launch} {G : mv_G} {d : Nat} {u0 : Nat} {u1 : Nat} {u2 : Nat} {u3 : Int32} {h : mv_H} {Q : mv_O → mv_H → Prop} (hG : mv_ok G) (hq : w_X3_equalChildren l G d u0 u1 u2 u3 h Q) : mv_rq l G mX3_equalChildren (d + 1) 0 (mv_in [.ref u0, .ref u1, .ref u2, .int u3] 7) [] h Q := by
  unfold w_X3_equalChildren at hq
  show mv_rq l G mX3_equalChildren (d + 1) 0 [some (.ref u0), some (.ref u1), some (.ref u2), some (.int u3), none, none, none] [] h _
  refine q_iconst (v := 0) dX3_equalChildren_0 (by decide) ?_
  refine q_istore dX3_equalChildren_1 (Nat.le_of_ble_eq_true rfl) rfl ?_
  show mv_rq l G mX3_equalChildren (d + 1) 3 [some (.ref u0), some (.ref u1), some (.ref u2), some (.int u3), some (.int 0), none, none] [] h _
  exact mv_weak (A := [some (.ref u0), some (.ref u1), some (.ref u2), some (.int u3), some (.int 0), none, none]) (by repeat' constructor) hq
def w_X3_equalChildren_3 (l : Launch) (G : mv_G) (d : Nat) (u0 : Nat) (u1 : Nat) (u2 : Nat) (u3 : Int32) (u4 : Int32) (h : mv_H) (Q : mv_O → mv_H → Prop) : Prop :=
  vgi h u1 13 1 fun x6 =>
  vif (x6 ≤ u4) (
    Q (.inl (some (.int 1))) h) (
    vgb h u0 5 1 fun x13 =>
    vgb h x13 3 0 fun x16 =>
    vgb h u0 5 1 fun x20 =>
    vgb h x20 3 1 fun x23 =>
    vgi h u1 13 3 fun x27 =>
    vab G h x23 6 x27 fun x30 =>
    vai G h x30 1 u4 fun x33 =>
    vab G h x16 4 x33 fun x34 =>
    vgi h u1 13 0 fun x38 =>
    vif (x38 = 5) (
      vgb h u0 5 1 fun x46 =>
      vgi h u2 13 3 fun x50 =>
      vob h x46 3 (
      mv_rq l G mX1_childAt d 0 (mv_in [.ref x46, .int x50, .int u4] 3) [] h (vI (fun E h1 => Q (.inr E) h1) (fun x55 h55 =>
      vif (x55 = (-1)) (
        Q (.inl (some (.int 0))) h55) (
        vgb h55 u0 5 1 fun x89 =>
        vgb h55 x89 3 0 fun x92 =>
        vab G h55 x92 4 x55 fun x97 =>
        vob h55 u0 5 (
        mv_rq l G mX3_equal d 0 (mv_in [.ref u0, .ref x34, .ref x97, .int (u3 + 1)] 4) [] h55 (vI (fun E h1 => Q (.inr E) h1) (fun x101 h101 =>
        vif (x101 = 0) (
          Q (.inl (some (.int 0))) h101) (
          mv_rq l G mX3_equalChildren (d + 1) 3 [some (.ref u0), some (.ref u1), some (.ref u2), some (.int u3), some (.int (u4 + 1)), none, none] [] h101 Q))))))))) (
      vgb h u0 5 1 fun x62 =>
      vgi h u2 13 3 fun x66 =>
      vgb h x34 13 4 fun x71 =>
      vob h x62 3 (
      mv_rq l G mX1_childNamed d 0 (mv_in [.ref x62, .int x66, .ref x71] 5) [] h (vI (fun E h1 => Q (.inr E) h1) (fun x74 h74 =>
      vif (x74 = (-1)) (
        Q (.inl (some (.int 0))) h74) (
        vgb h74 u0 5 1 fun x89 =>
        vgb h74 x89 3 0 fun x92 =>
        vab G h74 x92 4 x74 fun x97 =>
        vob h74 u0 5 (
        mv_rq l G mX3_equal d 0 (mv_in [.ref u0, .ref x34, .ref x97, .int (u3 + 1)] 4) [] h74 (vI (fun E h1 => Q (.inr E) h1) (fun x101 h101 =>
        vif (x101 = 0) (
          Q (.inl (some (.int 0))) h101) (
          mv_rq l G mX3_equalChildren (d + 1) 3 [some (.ref u0), some (.ref u1), some (.ref u2), some (.int u3), some (.int (u4 + 1)), none, none] [] h101 Q))))))))))
theorem v_X3_equalChildren_3 {l : Launch} {G : mv_G} {d : Nat} {u0 : Nat} {u1 : Nat} {u2 : Nat} {u3 : Int32} {u4 : Int32} {h : mv_H} {Q : mv_O → mv_H → Prop} (hG : mv_ok G) (hq : w_X3_equalChildren_3 l G d u0 u1 u2 u3 u4 h Q) : mv_rq l G mX3_equalChildren (d + 1) 3 [some (.ref u0), some (.ref u1), some (.ref u2), some (.int u3), some (.int u4), none, none] [] h Q := by
  unfold w_X3_equalChildren_3 at hq
  refine q_iload dX3_equalChildren_3 rfl ?_
  refine q_aload_n dX3_equalChildren_5 rfl ?_
  obtain ⟨fs6, x6, f6, g6, hq⟩ := vgi_e hq
  refine q_getf (k := 1) (T := TX11) (C0 := RX11) (N := 10) (ci := 13) dX3_equalChildren_6 fl_RX3_146 rfl uin_RX11 (by decide) rfl f6 g6 ?_
  refine q_icmp_ge (tgt := 115) dX3_equalChildren_9 (by decide) (fun c9 => ?_) (fun c9 => ?_)
  ·
    have hq := vif_t hq c9
    refine q_iconst (v := 1) dX3_equalChildren_115 (by decide) ?_
    exact q_iret (ty := .boolean) dX3_equalChildren_116 rfl rfl hq
  ·
    have hq := vif_f hq c9
    refine q_aload_n dX3_equalChildren_12 rfl ?_
    obtain ⟨fs13, x13, f13, g13, hq⟩ := vgb_e hq
    refine q_getf (k := 1) (T := TX3) (C0 := RX3) (N := 3) (ci := 5) dX3_equalChildren_13 fl_RX3_17 rfl uin_RX3 (by decide) rfl f13 g13 ?_
    obtain ⟨fs16, x16, f16, g16, hq⟩ := vgb_e hq
    refine q_getf (k := 0) (T := TX1) (C0 := RX1) (N := 4) (ci := 3) dX3_equalChildren_16 fl_RX3_76 rfl uin_RX1 (by decide) rfl f16 g16 ?_
    refine q_aload_n dX3_equalChildren_19 rfl ?_
    obtain ⟨fs20, x20, f20, g20, hq⟩ := vgb_e hq
    refine q_getf (k := 1) (T := TX3) (C0 := RX3) (N := 3) (ci := 5) dX3_equalChildren_20 fl_RX3_17 rfl uin_RX3 (by decide) rfl f20 g20 ?_
    obtain ⟨fs23, x23, f23, g23, hq⟩ := vgb_e hq
    refine q_getf (k := 1) (T := TX1) (C0 := RX1) (N := 4) (ci := 3) dX3_equalChildren_23 fl_RX3_141 rfl uin_RX1 (by decide) rfl f23 g23 ?_
    refine q_aload_n dX3_equalChildren_26 rfl ?_
    obtain ⟨fs27, x27, f27, g27, hq⟩ := vgi_e hq
    refine q_getf (k := 3) (T := TX11) (C0 := RX11) (N := 10) (ci := 13) dX3_equalChildren_27 fl_RX3_266 rfl uin_RX11 (by decide) rfl f27 g27 ?_
    obtain ⟨n30, f30, x30, g30, i30, e30, hq⟩ := vab_e hq
    refine q_aaldA (t0 := 6) dX3_equalChildren_30 (mv_ty hG (t := 6) rfl) g30 i30 ?_
    rw [e30]
    show mv_rq l G mX3_equalChildren (d + 1) 31 [some (.ref u0), some (.ref u1), some (.ref u2), some (.int u3), some (.int u4), none, none] [.ref x30, .ref x16] h _
    refine q_iload dX3_equalChildren_31 rfl ?_
    obtain ⟨n33, f33, x33, g33, i33, e33, hq⟩ := vai_e hq
    refine q_iald (t0 := 1) dX3_equalChildren_33 (mv_tI hG) g33 i33 ?_
    rw [← e33]
    show mv_rq l G mX3_equalChildren (d + 1) 34 [some (.ref u0), some (.ref u1), some (.ref u2), some (.int u3), some (.int u4), none, none] [.int x33, .ref x16] h _
    obtain ⟨n34, f34, x34, g34, i34, e34, hq⟩ := vab_e hq
    refine q_aald (t0 := 4) dX3_equalChildren_34 (mv_ty hG (t := 4) rfl) g34 i34 ?_
    rw [e34]
    show mv_rq l G mX3_equalChildren (d + 1) 35 [some (.ref u0), some (.ref u1), some (.ref u2), some (.int u3), some (.int u4), none, none] [.ref x34] h _
    refine q_astore dX3_equalChildren_35 (Nat.le_of_ble_eq_true rfl) rfl ?_
    show mv_rq l G mX3_equalChildren (d + 1) 37 [some (.ref u0), some (.ref u1), some (.ref u2), some (.int u3), some (.int u4), some (.ref x34), none] [] h _
    refine q_aload_n dX3_equalChildren_37 rfl ?_
    obtain ⟨fs38, x38, f38, g38, hq⟩ := vgi_e hq
    refine q_getf (k := 0) (T := TX11) (C0 := RX11) (N := 10) (ci := 13) dX3_equalChildren_38 fl_RX3_145 rfl uin_RX11 (by decide) rfl f38 g38 ?_
    refine q_iconst (v := 5) dX3_equalChildren_41 (by decide) ?_
    refine q_icmp_ne (tgt := 61) dX3_equalChildren_42 (by decide) (fun c42 => ?_) (fun c42 => ?_)
    ·
      have hq := vif_f hq c42
      refine q_aload_n dX3_equalChildren_61 rfl ?_
      obtain ⟨fs62, x62, f62, g62, hq⟩ := vgb_e hq
      refine q_getf (k := 1) (T := TX3) (C0 := RX3) (N := 3) (ci := 5) dX3_equalChildren_62 fl_RX3_17 rfl uin_RX3 (by decide) rfl f62 g62 ?_
      refine q_aload_n dX3_equalChildren_65 rfl ?_
      obtain ⟨fs66, x66, f66, g66, hq⟩ := vgi_e hq
      refine q_getf (k := 3) (T := TX11) (C0 := RX11) (N := 10) (ci := 13) dX3_equalChildren_66 fl_RX3_266 rfl uin_RX11 (by decide) rfl f66 g66 ?_
      refine q_aload dX3_equalChildren_69 rfl ?_
      obtain ⟨fs71, x71, f71, g71, hq⟩ := vgb_e hq
      refine q_getf (k := 4) (T := TX11) (C0 := RX11) (N := 10) (ci := 13) dX3_equalChildren_71 fl_RX3_269 rfl uin_RX11 (by decide) rfl f71 g71 ?_
      obtain ⟨⟨fs74, f74⟩, hq⟩ := vob_e hq
      refine q_cV (Y := mX1_childNamed) (As := [.int x66, .ref x71]) (st := []) (b := x62) (ci := 3) vc_X1_childNamed dX3_equalChildren_74 ml_RX3_107 rfl f74 rfl (Nat.le_of_ble_eq_true rfl) rfl (Nat.le_of_ble_eq_true rfl) hq (fun v h1 hq1 => ?_) (fun E h1 hq1 => ?_)
      rotate_left
      ·
        rcases hq1 with hq1 | ⟨E1, e1, hq1⟩
        · obtain ⟨_, z, _⟩ := hq1; exact nomatch z
        · obtain rfl := Sum.inr.inj e1; exact q_xout (fun z hz => nomatch hz) hq1
      rcases hq1 with hq1 | ⟨E1, e1, hq1⟩
      rotate_left
      · exact nomatch e1
      obtain ⟨x74, hv, hq⟩ := hq1
      obtain rfl := Sum.inl.inj hv
      clear hv
      obtain ⟨h74, eh74⟩ : ∃ z, z = h1 := ⟨_, rfl⟩
      rw [← eh74] at hq ⊢
      clear eh74
      show mv_rq l G mX3_equalChildren (d + 1) 77 [some (.ref u0), some (.ref u1), some (.ref u2), some (.int u3), some (.int u4), some (.ref x34), none] [.int x74] h74 _
      refine q_istore dX3_equalChildren_77 (Nat.le_of_ble_eq_true rfl) rfl ?_
      show mv_rq l G mX3_equalChildren (d + 1) 79 [some (.ref u0), some (.ref u1), some (.ref u2), some (.int u3), some (.int u4), some (.ref x34), some (.int x74)] [] h74 _
      refine q_iload dX3_equalChildren_79 rfl ?_
      refine q_iconst (v := (-1)) dX3_equalChildren_81 (by decide) ?_
      refine q_icmp_eq (tgt := 107) dX3_equalChildren_82 (by decide) (fun c82 => ?_) (fun c82 => ?_)
      ·
        have hq := vif_t hq c82
        refine q_iconst (v := 0) dX3_equalChildren_107 (by decide) ?_
        exact q_iret (ty := .boolean) dX3_equalChildren_108 rfl rfl hq
      ·
        have hq := vif_f hq c82
        refine q_aload_n dX3_equalChildren_85 rfl ?_
        refine q_aload dX3_equalChildren_86 rfl ?_
        refine q_aload_n dX3_equalChildren_88 rfl ?_
        obtain ⟨fs89, x89, f89, g89, hq⟩ := vgb_e hq
        refine q_getf (k := 1) (T := TX3) (C0 := RX3) (N := 3) (ci := 5) dX3_equalChildren_89 fl_RX3_17 rfl uin_RX3 (by decide) rfl f89 g89 ?_
        obtain ⟨fs92, x92, f92, g92, hq⟩ := vgb_e hq
        refine q_getf (k := 0) (T := TX1) (C0 := RX1) (N := 4) (ci := 3) dX3_equalChildren_92 fl_RX3_76 rfl uin_RX1 (by decide) rfl f92 g92 ?_
        refine q_iload dX3_equalChildren_95 rfl ?_
        obtain ⟨n97, f97, x97, g97, i97, e97, hq⟩ := vab_e hq
        refine q_aald (t0 := 4) dX3_equalChildren_97 (mv_ty hG (t := 4) rfl) g97 i97 ?_
        rw [e97]
        show mv_rq l G mX3_equalChildren (d + 1) 98 [some (.ref u0), some (.ref u1), some (.ref u2), some (.int u3), some (.int u4), some (.ref x34), some (.int x74)] [.ref x97, .ref x34, .ref u0] h74 _
        refine q_iload_n dX3_equalChildren_98 rfl ?_
        refine q_iconst (v := 1) dX3_equalChildren_99 (by decide) ?_
        refine q_iadd dX3_equalChildren_100 ?_
        obtain ⟨⟨fs101, f101⟩, hq⟩ := vob_e hq
        refine q_cV (Y := mX3_equal) (As := [.ref x34, .ref x97, .int (u3 + 1)]) (st := []) (b := u0) (ci := 5) vc_X3_equal dX3_equalChildren_101 ml_RX3_246 rfl f101 rfl (Nat.le_of_ble_eq_true rfl) rfl (Nat.le_of_ble_eq_true rfl) hq (fun v h1 hq1 => ?_) (fun E h1 hq1 => ?_)
        rotate_left
        ·
          rcases hq1 with hq1 | ⟨E1, e1, hq1⟩
          · obtain ⟨_, z, _⟩ := hq1; exact nomatch z
          · obtain rfl := Sum.inr.inj e1; exact q_xout (fun z hz => nomatch hz) hq1
        rcases hq1 with hq1 | ⟨E1, e1, hq1⟩
        rotate_left
        · exact nomatch e1
        obtain ⟨x101, hv, hq⟩ := hq1
        obtain rfl := Sum.inl.inj hv
        clear hv
        obtain ⟨h101, eh101⟩ : ∃ z, z = h1 := ⟨_, rfl⟩
        rw [← eh101] at hq ⊢
        clear eh101
        show mv_rq l G mX3_equalChildren (d + 1) 104 [some (.ref u0), some (.ref u1), some (.ref u2), some (.int u3), some (.int u4), some (.ref x34), some (.int x74)] [.int x101] h101 _
        refine q_if_ne (tgt := 109) dX3_equalChildren_104 (by decide) (fun c104 => ?_) (fun c104 => ?_)
        ·
          have hq := vif_f hq c104
          refine q_iinc dX3_equalChildren_109 rfl rfl ?_
          show mv_rq l G mX3_equalChildren (d + 1) 112 [some (.ref u0), some (.ref u1), some (.ref u2), some (.int u3), some (.int (u4 + 1)), some (.ref x34), some (.int x74)] [] h101 _
          refine q_goto (tgt := 3) dX3_equalChildren_112 (by decide) ?_
          exact mv_weak (A := [some (.ref u0), some (.ref u1), some (.ref u2), some (.int u3), some (.int (u4 + 1)), none, none]) (by repeat' constructor) hq
        ·
          have hq := vif_t hq c104
          refine q_iconst (v := 0) dX3_equalChildren_107 (by decide) ?_
          exact q_iret (ty := .boolean) dX3_equalChildren_108 rfl rfl hq
    ·
      have hq := vif_t hq c42
      refine q_aload_n dX3_equalChildren_45 rfl ?_
      obtain ⟨fs46, x46, f46, g46, hq⟩ := vgb_e hq
      refine q_getf (k := 1) (T := TX3) (C0 := RX3) (N := 3) (ci := 5) dX3_equalChildren_46 fl_RX3_17 rfl uin_RX3 (by decide) rfl f46 g46 ?_
      refine q_aload_n dX3_equalChildren_49 rfl ?_
      obtain ⟨fs50, x50, f50, g50, hq⟩ := vgi_e hq
      refine q_getf (k := 3) (T := TX11) (C0 := RX11) (N := 10) (ci := 13) dX3_equalChildren_50 fl_RX3_266 rfl uin_RX11 (by decide) rfl f50 g50 ?_
      refine q_iload dX3_equalChildren_53 rfl ?_
      obtain ⟨⟨fs55, f55⟩, hq⟩ := vob_e hq
      refine q_cV (Y := mX1_childAt) (As := [.int x50, .int u4]) (st := []) (b := x46) (ci := 3) vc_X1_childAt dX3_equalChildren_55 ml_RX3_153 rfl f55 rfl (Nat.le_of_ble_eq_true rfl) rfl (Nat.le_of_ble_eq_true rfl) hq (fun v h1 hq1 => ?_) (fun E h1 hq1 => ?_)
      rotate_left
      ·
        rcases hq1 with hq1 | ⟨E1, e1, hq1⟩
        · obtain ⟨_, z, _⟩ := hq1; exact nomatch z
        · obtain rfl := Sum.inr.inj e1; exact q_xout (fun z hz => nomatch hz) hq1
      rcases hq1 with hq1 | ⟨E1, e1, hq1⟩
      rotate_left
      · exact nomatch e1
      obtain ⟨x55, hv, hq⟩ := hq1
      obtain rfl := Sum.inl.inj hv
      clear hv
      obtain ⟨h55, eh55⟩ : ∃ z, z = h1 := ⟨_, rfl⟩
      rw [← eh55] at hq ⊢
      clear eh55
      show mv_rq l G mX3_equalChildren (d + 1) 58 [some (.ref u0), some (.ref u1), some (.ref u2), some (.int u3), some (.int u4), some (.ref x34), none] [.int x55] h55 _
      refine q_goto (tgt := 77) dX3_equalChildren_58 (by decide) ?_
      refine q_istore dX3_equalChildren_77 (Nat.le_of_ble_eq_true rfl) rfl ?_
      show mv_rq l G mX3_equalChildren (d + 1) 79 [some (.ref u0), some (.ref u1), some (.ref u2), some (.int u3), some (.int u4), some (.ref x34), some (.int x55)] [] h55 _
      refine q_iload dX3_equalChildren_79 rfl ?_
      refine q_iconst (v := (-1)) dX3_equalChildren_81 (by decide) ?_
      refine q_icmp_eq (tgt := 107) dX3_equalChildren_82 (by decide) (fun c82 => ?_) (fun c82 => ?_)
      ·
        have hq := vif_t hq c82
        refine q_iconst (v := 0) dX3_equalChildren_107 (by decide) ?_
        exact q_iret (ty := .boolean) dX3_equalChildren_108 rfl rfl hq
      ·
        have hq := vif_f hq c82
        refine q_aload_n dX3_equalChildren_85 rfl ?_
        refine q_aload dX3_equalChildren_86 rfl ?_
        refine q_aload_n dX3_equalChildren_88 rfl ?_
        obtain ⟨fs89, x89, f89, g89, hq⟩ := vgb_e hq
        refine q_getf (k := 1) (T := TX3) (C0 := RX3) (N := 3) (ci := 5) dX3_equalChildren_89 fl_RX3_17 rfl uin_RX3 (by decide) rfl f89 g89 ?_
        obtain ⟨fs92, x92, f92, g92, hq⟩ := vgb_e hq
        refine q_getf (k := 0) (T := TX1) (C0 := RX1) (N := 4) (ci := 3) dX3_equalChildren_92 fl_RX3_76 rfl uin_RX1 (by decide) rfl f92 g92 ?_
        refine q_iload dX3_equalChildren_95 rfl ?_
        obtain ⟨n97, f97, x97, g97, i97, e97, hq⟩ := vab_e hq
        refine q_aald (t0 := 4) dX3_equalChildren_97 (mv_ty hG (t := 4) rfl) g97 i97 ?_
        rw [e97]
        show mv_rq l G mX3_equalChildren (d + 1) 98 [some (.ref u0), some (.ref u1), some (.ref u2), some (.int u3), some (.int u4), some (.ref x34), some (.int x55)] [.ref x97, .ref x34, .ref u0] h55 _
        refine q_iload_n dX3_equalChildren_98 rfl ?_
        refine q_iconst (v := 1) dX3_equalChildren_99 (by decide) ?_
        refine q_iadd dX3_equalChildren_100 ?_
        obtain ⟨⟨fs101, f101⟩, hq⟩ := vob_e hq
        refine q_cV (Y := mX3_equal) (As := [.ref x34, .ref x97, .int (u3 + 1)]) (st := []) (b := u0) (ci := 5) vc_X3_equal dX3_equalChildren_101 ml_RX3_246 rfl f101 rfl (Nat.le_of_ble_eq_true rfl) rfl (Nat.le_of_ble_eq_true rfl) hq (fun v h1 hq1 => ?_) (fun E h1 hq1 => ?_)
        rotate_left
        ·
          rcases hq1 with hq1 | ⟨E1, e1, hq1⟩
          · obtain ⟨_, z, _⟩ := hq1; exact nomatch z
          · obtain rfl := Sum.inr.inj e1; exact q_xout (fun z hz => nomatch hz) hq1
        rcases hq1 with hq1 | ⟨E1, e1, hq1⟩
        rotate_left
        · exact nomatch e1
        obtain ⟨x101, hv, hq⟩ := hq1
        obtain rfl := Sum.inl.inj hv
        clear hv
        obtain ⟨h101, eh101⟩ : ∃ z, z = h1 := ⟨_, rfl⟩
        rw [← eh101] at hq ⊢
        clear eh101
        show mv_rq l G mX3_equalChildren (d + 1) 104 [some (.ref u0), some (.ref u1), some (.ref u2), some (.int u3), some (.int u4), some (.ref x34), some (.int x55)] [.int x101] h101 _
        refine q_if_ne (tgt := 109) dX3_equalChildren_104 (by decide) (fun c104 => ?_) (fun c104 => ?_)
        ·
          have hq := vif_f hq c104
          refine q_iinc dX3_equalChildren_109 rfl rfl ?_
          show mv_rq l G mX3_equalChildren (d + 1) 112 [some (.ref u0), some (.ref u1), some (.ref u2), some (.int u3), some (.int (u4 + 1)), some (.ref x34), some (.int x55)] [] h101 _
          refine q_goto (tgt := 3) dX3_equalChildren_112 (by decide) ?_
          exact mv_weak (A := [some (.ref u0), some (.ref u1), some (.ref u2), some (.int u3), some (.int (u4 + 1)), none, none]) (by repeat' constructor) hq
        ·
          have hq := vif_t hq c104
          refine q_iconst (v := 0) dX3_equalChildren_107 (by decide) ?_
          exact q_iret (ty := .boolean) dX3_equalChildren_108 rfl rfl hq
def w_X3_less (l : Launch) (G : mv_G) (d : Nat) (u0 : Option Nat) (u1 : Option Nat) (h : mv_H) (Q : mv_O → mv_H → Prop) : Prop :=
  vnl u0 (
    Q (.inl (some (.int 0))) h) (fun a1 =>
    vnl u1 (
      Q (.inl (some (.int 0))) h) (fun a5 =>
      vgi h a1 13 0 fun x9 =>
      vgi h a5 13 0 fun x13 =>
      vif (x9 = x13) (
        vgi h a1 13 0 fun x22 =>
        vif (x22 = 3) (
          vgi h a1 13 1 fun x30 =>
          vgi h a5 13 1 fun x34 =>
          vif (x34 ≤ x30) (
            Q (.inl (some (.int 0))) h) (
            Q (.inl (some (.int 1))) h)) (
          vgi h a1 13 0 fun x47 =>
          vif (x47 = 4) (
            vgb h a1 13 2 fun x55 =>
            vgb h a5 13 2 fun x59 =>
            mv_rq l G mX3_lessString d 0 (mv_in [.ref x55, .ref x59] 4) [] h (vI (fun E h1 => Q (.inr E) h1) (fun x62 h62 =>
            vif (x62 = 0) (
              Q (.inl (some (.int 0))) h62) (
              Q (.inl (some (.int 1))) h62)))) (
            Q (.inl (some (.int 0))) h))) (
        Q (.inl (some (.int 0))) h)))
theorem v_X3_less {l : Launch} {G : mv_G} {d : Nat} {u0 : Option Nat} {u1 : Option Nat} {h : mv_H} {Q : mv_O → mv_H → Prop} (hG : mv_ok G) (hq : w_X3_less l G d u0 u1 h Q) : mv_rq l G mX3_less (d + 1) 0 (mv_in [va_rf u0, va_rf u1] 2) [] h Q := by
  unfold w_X3_less at hq
  rw [show mv_in [va_rf u0, va_rf u1] 2 = [some (va_rf u0), some (va_rf u1)] by cases u0 <;> cases u1 <;> rfl]
  show mv_rq l G mX3_less (d + 1) 0 [some (va_rf u0), some (va_rf u1)] [] h _
  refine q_aload_nV dX3_less_0 rfl ?_
  refine q_ifnullV (tgt := 19) dX3_less_1 (by decide) (fun c1 => ?_) (fun a1 c1 => ?_)
  ·
    have hz := vnl_n hq c1
    clear hq
    subst c1
    have hq := hz
    clear hz
    show mv_rq l G mX3_less (d + 1) 19 [some (.null), some (va_rf u1)] [] h _
    refine q_iconst (v := 0) dX3_less_19 (by decide) ?_
    exact q_iret (ty := .boolean) dX3_less_20 rfl rfl hq
  ·
    have hz := vnl_s hq c1
    clear hq
    subst c1
    have hq := hz
    clear hz
    show mv_rq l G mX3_less (d + 1) 4 [some (.ref a1), some (va_rf u1)] [] h _
    refine q_aload_nV dX3_less_4 rfl ?_
    refine q_ifnullV (tgt := 19) dX3_less_5 (by decide) (fun c5 => ?_) (fun a5 c5 => ?_)
    ·
      have hz := vnl_n hq c5
      clear hq
      subst c5
      have hq := hz
      clear hz
      show mv_rq l G mX3_less (d + 1) 19 [some (.ref a1), some (.null)] [] h _
      refine q_iconst (v := 0) dX3_less_19 (by decide) ?_
      exact q_iret (ty := .boolean) dX3_less_20 rfl rfl hq
    ·
      have hz := vnl_s hq c5
      clear hq
      subst c5
      have hq := hz
      clear hz
      show mv_rq l G mX3_less (d + 1) 8 [some (.ref a1), some (.ref a5)] [] h _
      refine q_aload_n dX3_less_8 rfl ?_
      obtain ⟨fs9, x9, f9, g9, hq⟩ := vgi_e hq
      refine q_getf (k := 0) (T := TX11) (C0 := RX11) (N := 10) (ci := 13) dX3_less_9 fl_RX3_145 rfl uin_RX11 (by decide) rfl f9 g9 ?_
      refine q_aload_n dX3_less_12 rfl ?_
      obtain ⟨fs13, x13, f13, g13, hq⟩ := vgi_e hq
      refine q_getf (k := 0) (T := TX11) (C0 := RX11) (N := 10) (ci := 13) dX3_less_13 fl_RX3_145 rfl uin_RX11 (by decide) rfl f13 g13 ?_
      refine q_icmp_eq (tgt := 21) dX3_less_16 (by decide) (fun c16 => ?_) (fun c16 => ?_)
      ·
        have hq := vif_t hq c16
        refine q_aload_n dX3_less_21 rfl ?_
        obtain ⟨fs22, x22, f22, g22, hq⟩ := vgi_e hq
        refine q_getf (k := 0) (T := TX11) (C0 := RX11) (N := 10) (ci := 13) dX3_less_22 fl_RX3_145 rfl uin_RX11 (by decide) rfl f22 g22 ?_
        refine q_iconst (v := 3) dX3_less_25 (by decide) ?_
        refine q_icmp_ne (tgt := 46) dX3_less_26 (by decide) (fun c26 => ?_) (fun c26 => ?_)
        ·
          have hq := vif_f hq c26
          refine q_aload_n dX3_less_46 rfl ?_
          obtain ⟨fs47, x47, f47, g47, hq⟩ := vgi_e hq
          refine q_getf (k := 0) (T := TX11) (C0 := RX11) (N := 10) (ci := 13) dX3_less_47 fl_RX3_145 rfl uin_RX11 (by decide) rfl f47 g47 ?_
          refine q_iconst (v := 4) dX3_less_50 (by decide) ?_
          refine q_icmp_ne (tgt := 72) dX3_less_51 (by decide) (fun c51 => ?_) (fun c51 => ?_)
          ·
            have hq := vif_f hq c51
            refine q_iconst (v := 0) dX3_less_72 (by decide) ?_
            exact q_iret (ty := .boolean) dX3_less_73 rfl rfl hq
          ·
            have hq := vif_t hq c51
            refine q_aload_n dX3_less_54 rfl ?_
            obtain ⟨fs55, x55, f55, g55, hq⟩ := vgb_e hq
            refine q_getf (k := 2) (T := TX11) (C0 := RX11) (N := 10) (ci := 13) dX3_less_55 fl_RX3_254 rfl uin_RX11 (by decide) rfl f55 g55 ?_
            refine q_aload_n dX3_less_58 rfl ?_
            obtain ⟨fs59, x59, f59, g59, hq⟩ := vgb_e hq
            refine q_getf (k := 2) (T := TX11) (C0 := RX11) (N := 10) (ci := 13) dX3_less_59 fl_RX3_254 rfl uin_RX11 (by decide) rfl f59 g59 ?_
            refine q_cS (Y := mX3_lessString) (As := [.ref x55, .ref x59]) (st := []) sc_X3_lessString dX3_less_62 ml_RX3_270 rfl (Nat.le_of_ble_eq_true rfl) rfl (Nat.le_of_ble_eq_true rfl) hq (fun v h1 hq1 => ?_) (fun E h1 hq1 => ?_)
            rotate_left
            ·
              rcases hq1 with hq1 | ⟨E1, e1, hq1⟩
              · obtain ⟨_, z, _⟩ := hq1; exact nomatch z
              · obtain rfl := Sum.inr.inj e1; exact q_xout (fun z hz => nomatch hz) hq1
            rcases hq1 with hq1 | ⟨E1, e1, hq1⟩
            rotate_left
            · exact nomatch e1
            obtain ⟨x62, hv, hq⟩ := hq1
            obtain rfl := Sum.inl.inj hv
            clear hv
            obtain ⟨h62, eh62⟩ : ∃ z, z = h1 := ⟨_, rfl⟩
            rw [← eh62] at hq ⊢
            clear eh62
            show mv_rq l G mX3_less (d + 1) 65 [some (.ref a1), some (.ref a5)] [.int x62] h62 _
            refine q_if_eq (tgt := 72) dX3_less_65 (by decide) (fun c65 => ?_) (fun c65 => ?_)
            ·
              have hq := vif_t hq c65
              refine q_iconst (v := 0) dX3_less_72 (by decide) ?_
              exact q_iret (ty := .boolean) dX3_less_73 rfl rfl hq
            ·
              have hq := vif_f hq c65
              refine q_iconst (v := 1) dX3_less_68 (by decide) ?_
              refine q_goto (tgt := 73) dX3_less_69 (by decide) ?_
              exact q_iret (ty := .boolean) dX3_less_73 rfl rfl hq
        ·
          have hq := vif_t hq c26
          refine q_aload_n dX3_less_29 rfl ?_
          obtain ⟨fs30, x30, f30, g30, hq⟩ := vgi_e hq
          refine q_getf (k := 1) (T := TX11) (C0 := RX11) (N := 10) (ci := 13) dX3_less_30 fl_RX3_146 rfl uin_RX11 (by decide) rfl f30 g30 ?_
          refine q_aload_n dX3_less_33 rfl ?_
          obtain ⟨fs34, x34, f34, g34, hq⟩ := vgi_e hq
          refine q_getf (k := 1) (T := TX11) (C0 := RX11) (N := 10) (ci := 13) dX3_less_34 fl_RX3_146 rfl uin_RX11 (by decide) rfl f34 g34 ?_
          refine q_icmp_ge (tgt := 44) dX3_less_37 (by decide) (fun c37 => ?_) (fun c37 => ?_)
          ·
            have hq := vif_t hq c37
            refine q_iconst (v := 0) dX3_less_44 (by decide) ?_
            exact q_iret (ty := .boolean) dX3_less_45 rfl rfl hq
          ·
            have hq := vif_f hq c37
            refine q_iconst (v := 1) dX3_less_40 (by decide) ?_
            refine q_goto (tgt := 45) dX3_less_41 (by decide) ?_
            exact q_iret (ty := .boolean) dX3_less_45 rfl rfl hq
      ·
        have hq := vif_f hq c16
        refine q_iconst (v := 0) dX3_less_19 (by decide) ?_
        exact q_iret (ty := .boolean) dX3_less_20 rfl rfl hq
def w_X3_lessString (l : Launch) (G : mv_G) (d : Nat) (u0 : Nat) (u1 : Nat) (h : mv_H) (Q : mv_O → mv_H → Prop) : Prop :=
  vob h u0 0 (
  mv_rq l G mJ0_length_8abf5 d 0 (mv_in [.ref u0] 1) [] h (vI (fun E h1 => Q (.inr E) h1) (fun x1 h1 =>
  vob h1 u1 0 (
  mv_rq l G mJ0_length_8abf5 d 0 (mv_in [.ref u1] 1) [] h1 (vI (fun E h1 => Q (.inr E) h1) (fun x5 h5 =>
  mv_rq l G mX3_lessString (d + 1) 14 [some (.ref u0), some (.ref u1), some (.int (if x5 < x1 then x5 else x1)), some (.int 0)] [] h5 Q))))))
theorem v_X3_lessString {l : Launch} {G : mv_G} {d : Nat} {u0 : Nat} {u1 : Nat} {h : mv_H} {Q : mv_O → mv_H → Prop} (hG : mv_ok G) (hq : w_X3_lessString l G d u0 u1 h Q) : mv_rq l G mX3_lessString (d + 1) 0 (mv_in [.ref u0, .ref u1] 4) [] h Q := by
  unfold w_X3_lessString at hq
  show mv_rq l G mX3_lessString (d + 1) 0 [some (.ref u0), some (.ref u1), none, none] [] h _
  refine q_aload_n dX3_lessString_0 rfl ?_
  obtain ⟨⟨fs1, f1⟩, hq⟩ := vob_e hq
  refine q_cV (Y := mJ0_length_8abf5) (As := []) (st := []) (b := u0) (ci := 0) vc_J0_length_8abf5 dX3_lessString_1 ml_RX3_274 rfl f1 rfl (Nat.le_of_ble_eq_true rfl) rfl (Nat.le_of_ble_eq_true rfl) hq (fun v h1 hq1 => ?_) (fun E h1 hq1 => ?_)
  rotate_left
  ·
    rcases hq1 with hq1 | ⟨E1, e1, hq1⟩
    · obtain ⟨_, z, _⟩ := hq1; exact nomatch z
    · obtain rfl := Sum.inr.inj e1; exact q_xout (fun z hz => nomatch hz) hq1
  rcases hq1 with hq1 | ⟨E1, e1, hq1⟩
  rotate_left
  · exact nomatch e1
  obtain ⟨x1, hv, hq⟩ := hq1
  obtain rfl := Sum.inl.inj hv
  clear hv
  obtain ⟨h1, eh1⟩ : ∃ z, z = h1 := ⟨_, rfl⟩
  rw [← eh1] at hq ⊢
  clear eh1
  show mv_rq l G mX3_lessString (d + 1) 4 [some (.ref u0), some (.ref u1), none, none] [.int x1] h1 _
  refine q_aload_n dX3_lessString_4 rfl ?_
  obtain ⟨⟨fs5, f5⟩, hq⟩ := vob_e hq
  refine q_cV (Y := mJ0_length_8abf5) (As := []) (st := [.int x1]) (b := u1) (ci := 0) vc_J0_length_8abf5 dX3_lessString_5 ml_RX3_274 rfl f5 rfl (Nat.le_of_ble_eq_true rfl) rfl (Nat.le_of_ble_eq_true rfl) hq (fun v h1 hq1 => ?_) (fun E h1 hq1 => ?_)
  rotate_left
  ·
    rcases hq1 with hq1 | ⟨E1, e1, hq1⟩
    · obtain ⟨_, z, _⟩ := hq1; exact nomatch z
    · obtain rfl := Sum.inr.inj e1; exact q_xout (fun z hz => nomatch hz) hq1
  rcases hq1 with hq1 | ⟨E1, e1, hq1⟩
  rotate_left
  · exact nomatch e1
  obtain ⟨x5, hv, hq⟩ := hq1
  obtain rfl := Sum.inl.inj hv
  clear hv
  obtain ⟨h5, eh5⟩ : ∃ z, z = h1 := ⟨_, rfl⟩
  rw [← eh5] at hq ⊢
  clear eh5
  show mv_rq l G mX3_lessString (d + 1) 8 [some (.ref u0), some (.ref u1), none, none] [.int x5, .int x1] h5 _
  refine q_mmin dX3_lessString_8 ml_RX3_277 mth_min_s mth_i mth_min_c rfl (Nat.le_of_ble_eq_true rfl) ?_
  refine q_istore_n dX3_lessString_11 (Nat.le_of_ble_eq_true rfl) rfl ?_
  show mv_rq l G mX3_lessString (d + 1) 12 [some (.ref u0), some (.ref u1), some (.int (if x5 < x1 then x5 else x1)), none] [] h5 _
  refine q_iconst (v := 0) dX3_lessString_12 (by decide) ?_
  refine q_istore_n dX3_lessString_13 (Nat.le_of_ble_eq_true rfl) rfl ?_
  show mv_rq l G mX3_lessString (d + 1) 14 [some (.ref u0), some (.ref u1), some (.int (if x5 < x1 then x5 else x1)), some (.int 0)] [] h5 _
  exact mv_weak (A := [some (.ref u0), some (.ref u1), some (.int (if x5 < x1 then x5 else x1)), some (.int 0)]) (by repeat' constructor) hq
def w_X3_lessString_14 (l : Launch) (G : mv_G) (d : Nat) (u0 : Nat) (u1 : Nat) (u2 : Int32) (u3 : Int32) (h : mv_H) (Q : mv_O → mv_H → Prop) : Prop :=
  vif (u2 ≤ u3) (
    vob h u0 0 (
    mv_rq l G mJ0_length_8abf5 d 0 (mv_in [.ref u0] 1) [] h (vI (fun E h1 => Q (.inr E) h1) (fun x58 h58 =>
    vob h58 u1 0 (
    mv_rq l G mJ0_length_8abf5 d 0 (mv_in [.ref u1] 1) [] h58 (vI (fun E h1 => Q (.inr E) h1) (fun x62 h62 =>
    vif (x62 ≤ x58) (
      Q (.inl (some (.int 0))) h62) (
      Q (.inl (some (.int 1))) h62)))))))) (
    vob h u0 0 (
    mv_rq l G mJ0_charAt_5068e d 0 (mv_in [.ref u0, .int u3] 2) [] h (vI (fun E h1 => Q (.inr E) h1) (fun x21 h21 =>
    vob h21 u1 0 (
    mv_rq l G mJ0_charAt_5068e d 0 (mv_in [.ref u1, .int u3] 2) [] h21 (vI (fun E h1 => Q (.inr E) h1) (fun x26 h26 =>
    vif (x21 = x26) (
      mv_rq l G mX3_lessString (d + 1) 14 [some (.ref u0), some (.ref u1), some (.int u2), some (.int (u3 + 1))] [] h26 Q) (
      vob h26 u0 0 (
      mv_rq l G mJ0_charAt_5068e d 0 (mv_in [.ref u0, .int u3] 2) [] h26 (vI (fun E h1 => Q (.inr E) h1) (fun x34 h34 =>
      vob h34 u1 0 (
      mv_rq l G mJ0_charAt_5068e d 0 (mv_in [.ref u1, .int u3] 2) [] h34 (vI (fun E h1 => Q (.inr E) h1) (fun x39 h39 =>
      vif (x39 ≤ x34) (
        Q (.inl (some (.int 0))) h39) (
        Q (.inl (some (.int 1))) h39)))))))))))))))
theorem v_X3_lessString_14 {l : Launch} {G : mv_G} {d : Nat} {u0 : Nat} {u1 : Nat} {u2 : Int32} {u3 : Int32} {h : mv_H} {Q : mv_O → mv_H → Prop} (hG : mv_ok G) (hq : w_X3_lessString_14 l G d u0 u1 u2 u3 h Q) : mv_rq l G mX3_lessString (d + 1) 14 [some (.ref u0), some (.ref u1), some (.int u2), some (.int u3)] [] h Q := by
  unfold w_X3_lessString_14 at hq
  refine q_iload_n dX3_lessString_14 rfl ?_
  refine q_iload_n dX3_lessString_15 rfl ?_
  refine q_icmp_ge (tgt := 57) dX3_lessString_16 (by decide) (fun c16 => ?_) (fun c16 => ?_)
  ·
    have hq := vif_t hq c16
    refine q_aload_n dX3_lessString_57 rfl ?_
    obtain ⟨⟨fs58, f58⟩, hq⟩ := vob_e hq
    refine q_cV (Y := mJ0_length_8abf5) (As := []) (st := []) (b := u0) (ci := 0) vc_J0_length_8abf5 dX3_lessString_58 ml_RX3_274 rfl f58 rfl (Nat.le_of_ble_eq_true rfl) rfl (Nat.le_of_ble_eq_true rfl) hq (fun v h1 hq1 => ?_) (fun E h1 hq1 => ?_)
    rotate_left
    ·
      rcases hq1 with hq1 | ⟨E1, e1, hq1⟩
      · obtain ⟨_, z, _⟩ := hq1; exact nomatch z
      · obtain rfl := Sum.inr.inj e1; exact q_xout (fun z hz => nomatch hz) hq1
    rcases hq1 with hq1 | ⟨E1, e1, hq1⟩
    rotate_left
    · exact nomatch e1
    obtain ⟨x58, hv, hq⟩ := hq1
    obtain rfl := Sum.inl.inj hv
    clear hv
    obtain ⟨h58, eh58⟩ : ∃ z, z = h1 := ⟨_, rfl⟩
    rw [← eh58] at hq ⊢
    clear eh58
    show mv_rq l G mX3_lessString (d + 1) 61 [some (.ref u0), some (.ref u1), some (.int u2), some (.int u3)] [.int x58] h58 _
    refine q_aload_n dX3_lessString_61 rfl ?_
    obtain ⟨⟨fs62, f62⟩, hq⟩ := vob_e hq
    refine q_cV (Y := mJ0_length_8abf5) (As := []) (st := [.int x58]) (b := u1) (ci := 0) vc_J0_length_8abf5 dX3_lessString_62 ml_RX3_274 rfl f62 rfl (Nat.le_of_ble_eq_true rfl) rfl (Nat.le_of_ble_eq_true rfl) hq (fun v h1 hq1 => ?_) (fun E h1 hq1 => ?_)
    rotate_left
    ·
      rcases hq1 with hq1 | ⟨E1, e1, hq1⟩
      · obtain ⟨_, z, _⟩ := hq1; exact nomatch z
      · obtain rfl := Sum.inr.inj e1; exact q_xout (fun z hz => nomatch hz) hq1
    rcases hq1 with hq1 | ⟨E1, e1, hq1⟩
    rotate_left
    · exact nomatch e1
    obtain ⟨x62, hv, hq⟩ := hq1
    obtain rfl := Sum.inl.inj hv
    clear hv
    obtain ⟨h62, eh62⟩ : ∃ z, z = h1 := ⟨_, rfl⟩
    rw [← eh62] at hq ⊢
    clear eh62
    show mv_rq l G mX3_lessString (d + 1) 65 [some (.ref u0), some (.ref u1), some (.int u2), some (.int u3)] [.int x62, .int x58] h62 _
    refine q_icmp_ge (tgt := 72) dX3_lessString_65 (by decide) (fun c65 => ?_) (fun c65 => ?_)
    ·
      have hq := vif_t hq c65
      refine q_iconst (v := 0) dX3_lessString_72 (by decide) ?_
      exact q_iret (ty := .boolean) dX3_lessString_73 rfl rfl hq
    ·
      have hq := vif_f hq c65
      refine q_iconst (v := 1) dX3_lessString_68 (by decide) ?_
      refine q_goto (tgt := 73) dX3_lessString_69 (by decide) ?_
      exact q_iret (ty := .boolean) dX3_lessString_73 rfl rfl hq
  ·
    have hq := vif_f hq c16
    refine q_aload_n dX3_lessString_19 rfl ?_
    refine q_iload_n dX3_lessString_20 rfl ?_
    obtain ⟨⟨fs21, f21⟩, hq⟩ := vob_e hq
    refine q_cV (Y := mJ0_charAt_5068e) (As := [.int u3]) (st := []) (b := u0) (ci := 0) vc_J0_charAt_5068e dX3_lessString_21 ml_RX3_280 rfl f21 rfl (Nat.le_of_ble_eq_true rfl) rfl (Nat.le_of_ble_eq_true rfl) hq (fun v h1 hq1 => ?_) (fun E h1 hq1 => ?_)
    rotate_left
    ·
      rcases hq1 with hq1 | ⟨E1, e1, hq1⟩
      · obtain ⟨_, z, _⟩ := hq1; exact nomatch z
      · obtain rfl := Sum.inr.inj e1; exact q_xout (fun z hz => nomatch hz) hq1
    rcases hq1 with hq1 | ⟨E1, e1, hq1⟩
    rotate_left
    · exact nomatch e1
    obtain ⟨x21, hv, hq⟩ := hq1
    obtain rfl := Sum.inl.inj hv
    clear hv
    obtain ⟨h21, eh21⟩ : ∃ z, z = h1 := ⟨_, rfl⟩
    rw [← eh21] at hq ⊢
    clear eh21
    show mv_rq l G mX3_lessString (d + 1) 24 [some (.ref u0), some (.ref u1), some (.int u2), some (.int u3)] [.int x21] h21 _
    refine q_aload_n dX3_lessString_24 rfl ?_
    refine q_iload_n dX3_lessString_25 rfl ?_
    obtain ⟨⟨fs26, f26⟩, hq⟩ := vob_e hq
    refine q_cV (Y := mJ0_charAt_5068e) (As := [.int u3]) (st := [.int x21]) (b := u1) (ci := 0) vc_J0_charAt_5068e dX3_lessString_26 ml_RX3_280 rfl f26 rfl (Nat.le_of_ble_eq_true rfl) rfl (Nat.le_of_ble_eq_true rfl) hq (fun v h1 hq1 => ?_) (fun E h1 hq1 => ?_)
    rotate_left
    ·
      rcases hq1 with hq1 | ⟨E1, e1, hq1⟩
      · obtain ⟨_, z, _⟩ := hq1; exact nomatch z
      · obtain rfl := Sum.inr.inj e1; exact q_xout (fun z hz => nomatch hz) hq1
    rcases hq1 with hq1 | ⟨E1, e1, hq1⟩
    rotate_left
    · exact nomatch e1
    obtain ⟨x26, hv, hq⟩ := hq1
    obtain rfl := Sum.inl.inj hv
    clear hv
    obtain ⟨h26, eh26⟩ : ∃ z, z = h1 := ⟨_, rfl⟩
    rw [← eh26] at hq ⊢
    clear eh26
    show mv_rq l G mX3_lessString (d + 1) 29 [some (.ref u0), some (.ref u1), some (.int u2), some (.int u3)] [.int x26, .int x21] h26 _
    refine q_icmp_eq (tgt := 51) dX3_lessString_29 (by decide) (fun c29 => ?_) (fun c29 => ?_)
    ·
      have hq := vif_t hq c29
      refine q_iinc dX3_lessString_51 rfl rfl ?_
      show mv_rq l G mX3_lessString (d + 1) 54 [some (.ref u0), some (.ref u1), some (.int u2), some (.int (u3 + 1))] [] h26 _
      refine q_goto (tgt := 14) dX3_lessString_54 (by decide) ?_
      exact mv_weak (A := [some (.ref u0), some (.ref u1), some (.int u2), some (.int (u3 + 1))]) (by repeat' constructor) hq
    ·
      have hq := vif_f hq c29
      refine q_aload_n dX3_lessString_32 rfl ?_
      refine q_iload_n dX3_lessString_33 rfl ?_
      obtain ⟨⟨fs34, f34⟩, hq⟩ := vob_e hq
      refine q_cV (Y := mJ0_charAt_5068e) (As := [.int u3]) (st := []) (b := u0) (ci := 0) vc_J0_charAt_5068e dX3_lessString_34 ml_RX3_280 rfl f34 rfl (Nat.le_of_ble_eq_true rfl) rfl (Nat.le_of_ble_eq_true rfl) hq (fun v h1 hq1 => ?_) (fun E h1 hq1 => ?_)
      rotate_left
      ·
        rcases hq1 with hq1 | ⟨E1, e1, hq1⟩
        · obtain ⟨_, z, _⟩ := hq1; exact nomatch z
        · obtain rfl := Sum.inr.inj e1; exact q_xout (fun z hz => nomatch hz) hq1
      rcases hq1 with hq1 | ⟨E1, e1, hq1⟩
      rotate_left
      · exact nomatch e1
      obtain ⟨x34, hv, hq⟩ := hq1
      obtain rfl := Sum.inl.inj hv
      clear hv
      obtain ⟨h34, eh34⟩ : ∃ z, z = h1 := ⟨_, rfl⟩
      rw [← eh34] at hq ⊢
      clear eh34
      show mv_rq l G mX3_lessString (d + 1) 37 [some (.ref u0), some (.ref u1), some (.int u2), some (.int u3)] [.int x34] h34 _
      refine q_aload_n dX3_lessString_37 rfl ?_
      refine q_iload_n dX3_lessString_38 rfl ?_
      obtain ⟨⟨fs39, f39⟩, hq⟩ := vob_e hq
      refine q_cV (Y := mJ0_charAt_5068e) (As := [.int u3]) (st := [.int x34]) (b := u1) (ci := 0) vc_J0_charAt_5068e dX3_lessString_39 ml_RX3_280 rfl f39 rfl (Nat.le_of_ble_eq_true rfl) rfl (Nat.le_of_ble_eq_true rfl) hq (fun v h1 hq1 => ?_) (fun E h1 hq1 => ?_)
      rotate_left
      ·
        rcases hq1 with hq1 | ⟨E1, e1, hq1⟩
        · obtain ⟨_, z, _⟩ := hq1; exact nomatch z
        · obtain rfl := Sum.inr.inj e1; exact q_xout (fun z hz => nomatch hz) hq1
      rcases hq1 with hq1 | ⟨E1, e1, hq1⟩
      rotate_left
      · exact nomatch e1
      obtain ⟨x39, hv, hq⟩ := hq1
      obtain rfl := Sum.inl.inj hv
      clear hv
      obtain ⟨h39, eh39⟩ : ∃ z, z = h1 := ⟨_, rfl⟩
      rw [← eh39] at hq ⊢
      clear eh39
      show mv_rq l G mX3_lessString (d + 1) 42 [some (.ref u0), some (.ref u1), some (.int u2), some (.int u3)] [.int x39, .int x34] h39 _
      refine q_icmp_ge (tgt := 49) dX3_lessString_42 (by decide) (fun c42 => ?_) (fun c42 => ?_)
      ·
        have hq := vif_t hq c42
        refine q_iconst (v := 0) dX3_lessString_49 (by decide) ?_
        exact q_iret (ty := .boolean) dX3_lessString_50 rfl rfl hq
      ·
        have hq := vif_f hq c42
        refine q_iconst (v := 1) dX3_lessString_45 (by decide) ?_
        refine q_goto (tgt := 50) dX3_lessString_46 (by decide) ?_
        exact q_iret (ty := .boolean) dX3_lessString_50 rfl rfl hq
