theorem dX12_init_0 : decode cX12_init 0 = .ok (.aload_n 0, 1) := by decide +kernel
theorem dX12_init_1 : decode cX12_init 1 = .ok (.invokespecial 1, 3) := by decide +kernel
theorem dX12_init_4 : decode cX12_init 4 = .ok (.aload_n 0, 1) := by decide +kernel
theorem dX12_init_5 : decode cX12_init 5 = .ok (.new 7, 3) := by decide +kernel
theorem dX12_init_8 : decode cX12_init 8 = .ok (.dup, 1) := by decide +kernel
theorem dX12_init_9 : decode cX12_init 9 = .ok (.invokespecial 9, 3) := by decide +kernel
theorem dX12_init_12 : decode cX12_init 12 = .ok (.putfield 10, 3) := by decide +kernel
theorem dX12_init_15 : decode cX12_init 15 = .ok (.aload_n 0, 1) := by decide +kernel
theorem dX12_init_16 : decode cX12_init 16 = .ok (.new 16, 3) := by decide +kernel
theorem dX12_init_19 : decode cX12_init 19 = .ok (.dup, 1) := by decide +kernel
theorem dX12_init_20 : decode cX12_init 20 = .ok (.invokespecial 18, 3) := by decide +kernel
theorem dX12_init_23 : decode cX12_init 23 = .ok (.putfield 19, 3) := by decide +kernel
theorem dX12_init_26 : decode cX12_init 26 = .ok (.aload_n 0, 1) := by decide +kernel
theorem dX12_init_27 : decode cX12_init 27 = .ok (.new 23, 3) := by decide +kernel
theorem dX12_init_30 : decode cX12_init 30 = .ok (.dup, 1) := by decide +kernel
theorem dX12_init_31 : decode cX12_init 31 = .ok (.invokespecial 25, 3) := by decide +kernel
theorem dX12_init_34 : decode cX12_init 34 = .ok (.putfield 26, 3) := by decide +kernel
theorem dX12_init_37 : decode cX12_init 37 = .ok (.aload_n 0, 1) := by decide +kernel
theorem dX12_init_38 : decode cX12_init 38 = .ok (.new 30, 3) := by decide +kernel
theorem dX12_init_41 : decode cX12_init 41 = .ok (.dup, 1) := by decide +kernel
theorem dX12_init_42 : decode cX12_init 42 = .ok (.invokespecial 32, 3) := by decide +kernel
theorem dX12_init_45 : decode cX12_init 45 = .ok (.putfield 33, 3) := by decide +kernel
theorem dX12_init_48 : decode cX12_init 48 = .ok (.aload_n 0, 1) := by decide +kernel
theorem dX12_init_49 : decode cX12_init 49 = .ok (.new 37, 3) := by decide +kernel
theorem dX12_init_52 : decode cX12_init 52 = .ok (.dup, 1) := by decide +kernel
theorem dX12_init_53 : decode cX12_init 53 = .ok (.invokespecial 39, 3) := by decide +kernel
theorem dX12_init_56 : decode cX12_init 56 = .ok (.putfield 40, 3) := by decide +kernel
theorem dX12_init_59 : decode cX12_init 59 = .ok (.aload_n 0, 1) := by decide +kernel
theorem dX12_init_60 : decode cX12_init 60 = .ok (.new 7, 3) := by decide +kernel
theorem dX12_init_63 : decode cX12_init 63 = .ok (.dup, 1) := by decide +kernel
theorem dX12_init_64 : decode cX12_init 64 = .ok (.invokespecial 9, 3) := by decide +kernel
theorem dX12_init_67 : decode cX12_init 67 = .ok (.putfield 44, 3) := by decide +kernel
theorem dX12_init_70 : decode cX12_init 70 = .ok (.aload_n 0, 1) := by decide +kernel
theorem dX12_init_71 : decode cX12_init 71 = .ok (.new 47, 3) := by decide +kernel
theorem dX12_init_74 : decode cX12_init 74 = .ok (.dup, 1) := by decide +kernel
theorem dX12_init_75 : decode cX12_init 75 = .ok (.invokespecial 49, 3) := by decide +kernel
theorem dX12_init_78 : decode cX12_init 78 = .ok (.putfield 50, 3) := by decide +kernel
theorem dX12_init_81 : decode cX12_init 81 = .ok (.aload_n 0, 1) := by decide +kernel
theorem dX12_init_82 : decode cX12_init 82 = .ok (.new 47, 3) := by decide +kernel
theorem dX12_init_85 : decode cX12_init 85 = .ok (.dup, 1) := by decide +kernel
theorem dX12_init_86 : decode cX12_init 86 = .ok (.invokespecial 49, 3) := by decide +kernel
theorem dX12_init_89 : decode cX12_init 89 = .ok (.putfield 54, 3) := by decide +kernel
theorem dX12_init_92 : decode cX12_init 92 = .ok (.aload_n 0, 1) := by decide +kernel
theorem dX12_init_93 : decode cX12_init 93 = .ok (.aconst_null, 1) := by decide +kernel
theorem dX12_init_94 : decode cX12_init 94 = .ok (.putfield 57, 3) := by decide +kernel
theorem dX12_init_97 : decode cX12_init 97 = .ok (.aload_n 0, 1) := by decide +kernel
theorem dX12_init_98 : decode cX12_init 98 = .ok (.iconst (-1), 1) := by decide +kernel
theorem dX12_init_99 : decode cX12_init 99 = .ok (.putfield 61, 3) := by decide +kernel
theorem dX12_init_102 : decode cX12_init 102 = .ok (.return_, 1) := by decide +kernel
theorem dX12_type_0 : decode cX12_type 0 = .ok (.iload_n 1, 1) := by decide +kernel
theorem dX12_type_1 : decode cX12_type 1 = .ok (.bipush 32, 2) := by decide +kernel
theorem dX12_type_3 : decode cX12_type 3 = .ok (.if_icmp .lt 22, 3) := by decide +kernel
theorem dX12_type_6 : decode cX12_type 6 = .ok (.iload_n 1, 1) := by decide +kernel
theorem dX12_type_7 : decode cX12_type 7 = .ok (.bipush 126, 2) := by decide +kernel
theorem dX12_type_9 : decode cX12_type 9 = .ok (.if_icmp .gt 16, 3) := by decide +kernel
theorem dX12_type_12 : decode cX12_type 12 = .ok (.aload_n 0, 1) := by decide +kernel
theorem dX12_type_13 : decode cX12_type 13 = .ok (.getfield 10, 3) := by decide +kernel
theorem dX12_type_16 : decode cX12_type 16 = .ok (.invokevirtual 65, 3) := by decide +kernel
theorem dX12_type_19 : decode cX12_type 19 = .ok (.sipush 160, 3) := by decide +kernel
theorem dX12_type_22 : decode cX12_type 22 = .ok (.if_icmp .lt 5, 3) := by decide +kernel
theorem dX12_type_25 : decode cX12_type 25 = .ok (.iconst 0, 1) := by decide +kernel
theorem dX12_type_26 : decode cX12_type 26 = .ok (.ireturn, 1) := by decide +kernel
theorem dX12_type_27 : decode cX12_type 27 = .ok (.aload_n 0, 1) := by decide +kernel
theorem dX12_type_28 : decode cX12_type 28 = .ok (.getfield 10, 3) := by decide +kernel
theorem dX12_type_31 : decode cX12_type 31 = .ok (.iload_n 1, 1) := by decide +kernel
theorem dX12_type_32 : decode cX12_type 32 = .ok (.invokevirtual 69, 3) := by decide +kernel
theorem dX12_type_35 : decode cX12_type 35 = .ok (.pop, 1) := by decide +kernel
theorem dX12_type_36 : decode cX12_type 36 = .ok (.iconst 1, 1) := by decide +kernel
theorem dX12_type_37 : decode cX12_type 37 = .ok (.ireturn, 1) := by decide +kernel
theorem dX12_document_0 : decode cX12_document 0 = .ok (.aload_n 0, 1) := by decide +kernel
theorem dX12_document_1 : decode cX12_document 1 = .ok (.aload_n 0, 1) := by decide +kernel
theorem dX12_document_2 : decode cX12_document 2 = .ok (.getfield 19, 3) := by decide +kernel
theorem dX12_document_5 : decode cX12_document 5 = .ok (.aload_n 0, 1) := by decide +kernel
theorem dX12_document_6 : decode cX12_document 6 = .ok (.getfield 54, 3) := by decide +kernel
theorem dX12_document_9 : decode cX12_document 9 = .ok (.aload_n 0, 1) := by decide +kernel
theorem dX12_document_10 : decode cX12_document 10 = .ok (.invokevirtual 73, 3) := by decide +kernel
theorem dX12_document_13 : decode cX12_document 13 = .ok (.invokevirtual 77, 3) := by decide +kernel
theorem dX12_document_16 : decode cX12_document 16 = .ok (.putfield 61, 3) := by decide +kernel
theorem dX12_document_19 : decode cX12_document 19 = .ok (.aload_n 0, 1) := by decide +kernel
theorem dX12_document_20 : decode cX12_document 20 = .ok (.getfield 61, 3) := by decide +kernel
theorem dX12_document_23 : decode cX12_document 23 = .ok (.iconst (-1), 1) := by decide +kernel
theorem dX12_document_24 : decode cX12_document 24 = .ok (.if_icmp .eq 13, 3) := by decide +kernel
theorem dX12_document_27 : decode cX12_document 27 = .ok (.new 81, 3) := by decide +kernel
theorem dX12_document_30 : decode cX12_document 30 = .ok (.dup, 1) := by decide +kernel
theorem dX12_document_31 : decode cX12_document 31 = .ok (.ldc 83, 2) := by decide +kernel
theorem dX12_document_33 : decode cX12_document 33 = .ok (.invokespecial 85, 3) := by decide +kernel
theorem dX12_document_36 : decode cX12_document 36 = .ok (.athrow, 1) := by decide +kernel
theorem dX12_document_37 : decode cX12_document 37 = .ok (.aload_n 0, 1) := by decide +kernel
theorem dX12_document_38 : decode cX12_document 38 = .ok (.getfield 50, 3) := by decide +kernel
theorem dX12_document_41 : decode cX12_document 41 = .ok (.astore_n 1, 1) := by decide +kernel
theorem dX12_document_42 : decode cX12_document 42 = .ok (.aload_n 0, 1) := by decide +kernel
theorem dX12_document_43 : decode cX12_document 43 = .ok (.aload_n 0, 1) := by decide +kernel
theorem dX12_document_44 : decode cX12_document 44 = .ok (.getfield 54, 3) := by decide +kernel
theorem dX12_document_47 : decode cX12_document 47 = .ok (.putfield 50, 3) := by decide +kernel
theorem dX12_document_50 : decode cX12_document 50 = .ok (.aload_n 0, 1) := by decide +kernel
theorem dX12_document_51 : decode cX12_document 51 = .ok (.aload_n 1, 1) := by decide +kernel
theorem dX12_document_52 : decode cX12_document 52 = .ok (.putfield 54, 3) := by decide +kernel
theorem dX12_document_55 : decode cX12_document 55 = .ok (.aload_n 0, 1) := by decide +kernel
theorem dX12_document_56 : decode cX12_document 56 = .ok (.getfield 40, 3) := by decide +kernel
theorem dX12_document_59 : decode cX12_document 59 = .ok (.invokevirtual 88, 3) := by decide +kernel
theorem dX12_document_62 : decode cX12_document 62 = .ok (.aload_n 0, 1) := by decide +kernel
theorem dX12_document_63 : decode cX12_document 63 = .ok (.getfield 50, 3) := by decide +kernel
theorem dX12_document_66 : decode cX12_document 66 = .ok (.getfield 91, 3) := by decide +kernel
theorem dX12_document_69 : decode cX12_document 69 = .ok (.ireturn, 1) := by decide +kernel
theorem dX12_query_0 : decode cX12_query 0 = .ok (.aload_n 0, 1) := by decide +kernel
theorem dX12_query_1 : decode cX12_query 1 = .ok (.aload_n 0, 1) := by decide +kernel
theorem dX12_query_2 : decode cX12_query 2 = .ok (.getfield 26, 3) := by decide +kernel
theorem dX12_query_5 : decode cX12_query 5 = .ok (.aload_n 0, 1) := by decide +kernel
theorem dX12_query_6 : decode cX12_query 6 = .ok (.invokevirtual 73, 3) := by decide +kernel
theorem dX12_query_9 : decode cX12_query 9 = .ok (.invokevirtual 94, 3) := by decide +kernel
theorem dX12_query_12 : decode cX12_query 12 = .ok (.putfield 61, 3) := by decide +kernel
theorem dX12_query_15 : decode cX12_query 15 = .ok (.aload_n 0, 1) := by decide +kernel
theorem dX12_query_16 : decode cX12_query 16 = .ok (.getfield 61, 3) := by decide +kernel
theorem dX12_query_19 : decode cX12_query 19 = .ok (.iconst (-1), 1) := by decide +kernel
theorem dX12_query_20 : decode cX12_query 20 = .ok (.if_icmp .eq 13, 3) := by decide +kernel
theorem dX12_query_23 : decode cX12_query 23 = .ok (.new 81, 3) := by decide +kernel
theorem dX12_query_26 : decode cX12_query 26 = .ok (.dup, 1) := by decide +kernel
theorem dX12_query_27 : decode cX12_query 27 = .ok (.ldc 98, 2) := by decide +kernel
theorem dX12_query_29 : decode cX12_query 29 = .ok (.invokespecial 85, 3) := by decide +kernel
theorem dX12_query_32 : decode cX12_query 32 = .ok (.athrow, 1) := by decide +kernel
theorem dX12_query_33 : decode cX12_query 33 = .ok (.aload_n 0, 1) := by decide +kernel
theorem dX12_query_34 : decode cX12_query 34 = .ok (.aload_n 0, 1) := by decide +kernel
theorem dX12_query_35 : decode cX12_query 35 = .ok (.getfield 26, 3) := by decide +kernel
theorem dX12_query_38 : decode cX12_query 38 = .ok (.getfield 100, 3) := by decide +kernel
theorem dX12_query_41 : decode cX12_query 41 = .ok (.putfield 57, 3) := by decide +kernel
theorem dX12_query_44 : decode cX12_query 44 = .ok (.aload_n 0, 1) := by decide +kernel
theorem dX12_query_45 : decode cX12_query 45 = .ok (.getfield 57, 3) := by decide +kernel
theorem dX12_query_48 : decode cX12_query 48 = .ok (.getfield 101, 3) := by decide +kernel
theorem dX12_query_51 : decode cX12_query 51 = .ok (.ireturn, 1) := by decide +kernel
theorem dX12_place_0 : decode cX12_place 0 = .ok (.aload_n 0, 1) := by decide +kernel
theorem dX12_place_1 : decode cX12_place 1 = .ok (.getfield 61, 3) := by decide +kernel
theorem dX12_place_4 : decode cX12_place 4 = .ok (.ireturn, 1) := by decide +kernel
theorem dX12_find_0 : decode cX12_find 0 = .ok (.aload_n 0, 1) := by decide +kernel
theorem dX12_find_1 : decode cX12_find 1 = .ok (.getfield 50, 3) := by decide +kernel
theorem dX12_find_4 : decode cX12_find 4 = .ok (.getfield 91, 3) := by decide +kernel
theorem dX12_find_7 : decode cX12_find 7 = .ok (.ifCond .eq 10, 3) := by decide +kernel
theorem dX12_find_10 : decode cX12_find 10 = .ok (.aload_n 0, 1) := by decide +kernel
theorem dX12_find_11 : decode cX12_find 11 = .ok (.getfield 57, 3) := by decide +kernel
theorem dX12_find_14 : decode cX12_find 14 = .ok (.ifnonnull 13, 3) := by decide +kernel
theorem dX12_find_17 : decode cX12_find 17 = .ok (.new 104, 3) := by decide +kernel
theorem dX12_find_20 : decode cX12_find 20 = .ok (.dup, 1) := by decide +kernel
theorem dX12_find_21 : decode cX12_find 21 = .ok (.ldc 106, 2) := by decide +kernel
theorem dX12_find_23 : decode cX12_find 23 = .ok (.invokespecial 108, 3) := by decide +kernel
theorem dX12_find_26 : decode cX12_find 26 = .ok (.athrow, 1) := by decide +kernel
theorem dX12_find_27 : decode cX12_find 27 = .ok (.aload_n 0, 1) := by decide +kernel
theorem dX12_find_28 : decode cX12_find 28 = .ok (.getfield 40, 3) := by decide +kernel
theorem dX12_find_31 : decode cX12_find 31 = .ok (.invokevirtual 88, 3) := by decide +kernel
theorem dX12_find_34 : decode cX12_find 34 = .ok (.aload_n 0, 1) := by decide +kernel
theorem dX12_find_35 : decode cX12_find 35 = .ok (.getfield 40, 3) := by decide +kernel
theorem dX12_find_38 : decode cX12_find 38 = .ok (.aload_n 0, 1) := by decide +kernel
theorem dX12_find_39 : decode cX12_find 39 = .ok (.getfield 33, 3) := by decide +kernel
theorem dX12_find_42 : decode cX12_find 42 = .ok (.aload_n 0, 1) := by decide +kernel
theorem dX12_find_43 : decode cX12_find 43 = .ok (.getfield 50, 3) := by decide +kernel
theorem dX12_find_46 : decode cX12_find 46 = .ok (.aload_n 0, 1) := by decide +kernel
theorem dX12_find_47 : decode cX12_find 47 = .ok (.getfield 57, 3) := by decide +kernel
theorem dX12_find_50 : decode cX12_find 50 = .ok (.invokevirtual 109, 3) := by decide +kernel
theorem dX12_find_53 : decode cX12_find 53 = .ok (.invokevirtual 113, 3) := by decide +kernel
theorem dX12_find_56 : decode cX12_find 56 = .ok (.aload_n 0, 1) := by decide +kernel
theorem dX12_find_57 : decode cX12_find 57 = .ok (.getfield 40, 3) := by decide +kernel
theorem dX12_find_60 : decode cX12_find 60 = .ok (.getfield 117, 3) := by decide +kernel
theorem dX12_find_63 : decode cX12_find 63 = .ok (.ireturn, 1) := by decide +kernel
theorem dX12_found_0 : decode cX12_found 0 = .ok (.iload_n 1, 1) := by decide +kernel
theorem dX12_found_1 : decode cX12_found 1 = .ok (.ifCond .lt 26, 3) := by decide +kernel
theorem dX12_found_4 : decode cX12_found 4 = .ok (.iload_n 1, 1) := by decide +kernel
theorem dX12_found_5 : decode cX12_found 5 = .ok (.aload_n 0, 1) := by decide +kernel
theorem dX12_found_6 : decode cX12_found 6 = .ok (.getfield 40, 3) := by decide +kernel
theorem dX12_found_9 : decode cX12_found 9 = .ok (.getfield 117, 3) := by decide +kernel
theorem dX12_found_12 : decode cX12_found 12 = .ok (.if_icmp .ge 15, 3) := by decide +kernel
theorem dX12_found_15 : decode cX12_found 15 = .ok (.aload_n 0, 1) := by decide +kernel
theorem dX12_found_16 : decode cX12_found 16 = .ok (.getfield 40, 3) := by decide +kernel
theorem dX12_found_19 : decode cX12_found 19 = .ok (.getfield 118, 3) := by decide +kernel
theorem dX12_found_22 : decode cX12_found 22 = .ok (.iload_n 1, 1) := by decide +kernel
theorem dX12_found_23 : decode cX12_found 23 = .ok (.iaload, 1) := by decide +kernel
theorem dX12_found_24 : decode cX12_found 24 = .ok (.goto 4, 3) := by decide +kernel
theorem dX12_found_27 : decode cX12_found 27 = .ok (.iconst (-1), 1) := by decide +kernel
theorem dX12_found_28 : decode cX12_found 28 = .ok (.ireturn, 1) := by decide +kernel
theorem dX12_kind_0 : decode cX12_kind 0 = .ok (.aload_n 0, 1) := by decide +kernel
theorem dX12_kind_1 : decode cX12_kind 1 = .ok (.getfield 50, 3) := by decide +kernel
theorem dX12_kind_4 : decode cX12_kind 4 = .ok (.iload_n 1, 1) := by decide +kernel
theorem dX12_kind_5 : decode cX12_kind 5 = .ok (.invokevirtual 122, 3) := by decide +kernel
theorem dX12_kind_8 : decode cX12_kind 8 = .ok (.ifCond .eq 18, 3) := by decide +kernel
theorem dX12_kind_11 : decode cX12_kind 11 = .ok (.aload_n 0, 1) := by decide +kernel
theorem dX12_kind_12 : decode cX12_kind 12 = .ok (.getfield 50, 3) := by decide +kernel
theorem dX12_kind_15 : decode cX12_kind 15 = .ok (.getfield 126, 3) := by decide +kernel
theorem dX12_kind_18 : decode cX12_kind 18 = .ok (.iload_n 1, 1) := by decide +kernel
theorem dX12_kind_19 : decode cX12_kind 19 = .ok (.aaload, 1) := by decide +kernel
theorem dX12_kind_20 : decode cX12_kind 20 = .ok (.getfield 129, 3) := by decide +kernel
theorem dX12_kind_23 : decode cX12_kind 23 = .ok (.goto 4, 3) := by decide +kernel
theorem dX12_kind_26 : decode cX12_kind 26 = .ok (.iconst (-1), 1) := by decide +kernel
theorem dX12_kind_27 : decode cX12_kind 27 = .ok (.ireturn, 1) := by decide +kernel
theorem dX12_size_0 : decode cX12_size 0 = .ok (.aload_n 0, 1) := by decide +kernel
theorem dX12_size_1 : decode cX12_size 1 = .ok (.getfield 50, 3) := by decide +kernel
theorem dX12_size_4 : decode cX12_size 4 = .ok (.iload_n 1, 1) := by decide +kernel
theorem dX12_size_5 : decode cX12_size 5 = .ok (.invokevirtual 122, 3) := by decide +kernel
theorem dX12_size_8 : decode cX12_size 8 = .ok (.ifCond .eq 18, 3) := by decide +kernel
theorem dX12_size_11 : decode cX12_size 11 = .ok (.aload_n 0, 1) := by decide +kernel
theorem dX12_size_12 : decode cX12_size 12 = .ok (.getfield 50, 3) := by decide +kernel
theorem dX12_size_15 : decode cX12_size 15 = .ok (.getfield 126, 3) := by decide +kernel
theorem dX12_size_18 : decode cX12_size 18 = .ok (.iload_n 1, 1) := by decide +kernel
theorem dX12_size_19 : decode cX12_size 19 = .ok (.aaload, 1) := by decide +kernel
theorem dX12_size_20 : decode cX12_size 20 = .ok (.getfield 134, 3) := by decide +kernel
theorem dX12_size_23 : decode cX12_size 23 = .ok (.goto 4, 3) := by decide +kernel
theorem dX12_size_26 : decode cX12_size 26 = .ok (.iconst 0, 1) := by decide +kernel
theorem dX12_size_27 : decode cX12_size 27 = .ok (.ireturn, 1) := by decide +kernel
theorem dX12_character_0 : decode cX12_character 0 = .ok (.aload_n 0, 1) := by decide +kernel
theorem dX12_character_1 : decode cX12_character 1 = .ok (.iload_n 1, 1) := by decide +kernel
theorem dX12_character_2 : decode cX12_character 2 = .ok (.invokevirtual 137, 3) := by decide +kernel
theorem dX12_character_5 : decode cX12_character 5 = .ok (.iconst 4, 1) := by decide +kernel
theorem dX12_character_6 : decode cX12_character 6 = .ok (.if_icmp .ne 16, 3) := by decide +kernel
theorem dX12_character_9 : decode cX12_character 9 = .ok (.iload_n 2, 1) := by decide +kernel
theorem dX12_character_10 : decode cX12_character 10 = .ok (.ifCond .lt 12, 3) := by decide +kernel
theorem dX12_character_13 : decode cX12_character 13 = .ok (.iload_n 2, 1) := by decide +kernel
theorem dX12_character_14 : decode cX12_character 14 = .ok (.aload_n 0, 1) := by decide +kernel
theorem dX12_character_15 : decode cX12_character 15 = .ok (.iload_n 1, 1) := by decide +kernel
theorem dX12_character_16 : decode cX12_character 16 = .ok (.invokevirtual 140, 3) := by decide +kernel
theorem dX12_character_19 : decode cX12_character 19 = .ok (.if_icmp .lt 5, 3) := by decide +kernel
theorem dX12_character_22 : decode cX12_character 22 = .ok (.iconst 0, 1) := by decide +kernel
theorem dX12_character_23 : decode cX12_character 23 = .ok (.ireturn, 1) := by decide +kernel
theorem dX12_character_24 : decode cX12_character 24 = .ok (.aload_n 0, 1) := by decide +kernel
theorem dX12_character_25 : decode cX12_character 25 = .ok (.getfield 50, 3) := by decide +kernel
theorem dX12_character_28 : decode cX12_character 28 = .ok (.getfield 126, 3) := by decide +kernel
theorem dX12_character_31 : decode cX12_character 31 = .ok (.iload_n 1, 1) := by decide +kernel
theorem dX12_character_32 : decode cX12_character 32 = .ok (.aaload, 1) := by decide +kernel
theorem dX12_character_33 : decode cX12_character 33 = .ok (.getfield 142, 3) := by decide +kernel
theorem dX12_character_36 : decode cX12_character 36 = .ok (.iload_n 2, 1) := by decide +kernel
theorem dX12_character_37 : decode cX12_character 37 = .ok (.invokevirtual 146, 3) := by decide +kernel
theorem dX12_character_40 : decode cX12_character 40 = .ok (.ireturn, 1) := by decide +kernel
theorem dX12_outer_0 : decode cX12_outer 0 = .ok (.aload_n 0, 1) := by decide +kernel
theorem dX12_outer_1 : decode cX12_outer 1 = .ok (.getfield 50, 3) := by decide +kernel
theorem dX12_outer_4 : decode cX12_outer 4 = .ok (.iload_n 1, 1) := by decide +kernel
theorem dX12_outer_5 : decode cX12_outer 5 = .ok (.invokevirtual 122, 3) := by decide +kernel
theorem dX12_outer_8 : decode cX12_outer 8 = .ok (.ifCond .eq 18, 3) := by decide +kernel
theorem dX12_outer_11 : decode cX12_outer 11 = .ok (.aload_n 0, 1) := by decide +kernel
theorem dX12_outer_12 : decode cX12_outer 12 = .ok (.getfield 50, 3) := by decide +kernel
theorem dX12_outer_15 : decode cX12_outer 15 = .ok (.getfield 126, 3) := by decide +kernel
theorem dX12_outer_18 : decode cX12_outer 18 = .ok (.iload_n 1, 1) := by decide +kernel
theorem dX12_outer_19 : decode cX12_outer 19 = .ok (.aaload, 1) := by decide +kernel
theorem dX12_outer_20 : decode cX12_outer 20 = .ok (.getfield 152, 3) := by decide +kernel
theorem dX12_outer_23 : decode cX12_outer 23 = .ok (.goto 4, 3) := by decide +kernel
theorem dX12_outer_26 : decode cX12_outer 26 = .ok (.iconst (-1), 1) := by decide +kernel
theorem dX12_outer_27 : decode cX12_outer 27 = .ok (.ireturn, 1) := by decide +kernel
theorem dX12_path_0 : decode cX12_path 0 = .ok (.aload_n 0, 1) := by decide +kernel
theorem dX12_path_1 : decode cX12_path 1 = .ok (.getfield 50, 3) := by decide +kernel
theorem dX12_path_4 : decode cX12_path 4 = .ok (.iload_n 1, 1) := by decide +kernel
theorem dX12_path_5 : decode cX12_path 5 = .ok (.invokevirtual 122, 3) := by decide +kernel
theorem dX12_path_8 : decode cX12_path 8 = .ok (.ifCond .ne 5, 3) := by decide +kernel
theorem dX12_path_11 : decode cX12_path 11 = .ok (.iconst 0, 1) := by decide +kernel
theorem dX12_path_12 : decode cX12_path 12 = .ok (.ireturn, 1) := by decide +kernel
theorem dX12_path_13 : decode cX12_path 13 = .ok (.aload_n 0, 1) := by decide +kernel
theorem dX12_path_14 : decode cX12_path 14 = .ok (.getfield 44, 3) := by decide +kernel
theorem dX12_path_17 : decode cX12_path 17 = .ok (.iconst 0, 1) := by decide +kernel
theorem dX12_path_18 : decode cX12_path 18 = .ok (.invokevirtual 155, 3) := by decide +kernel
theorem dX12_path_21 : decode cX12_path 21 = .ok (.aload_n 0, 1) := by decide +kernel
theorem dX12_path_22 : decode cX12_path 22 = .ok (.getfield 50, 3) := by decide +kernel
theorem dX12_path_25 : decode cX12_path 25 = .ok (.iload_n 1, 1) := by decide +kernel
theorem dX12_path_26 : decode cX12_path 26 = .ok (.aload_n 0, 1) := by decide +kernel
theorem dX12_path_27 : decode cX12_path 27 = .ok (.getfield 44, 3) := by decide +kernel
theorem dX12_path_30 : decode cX12_path 30 = .ok (.invokevirtual 159, 3) := by decide +kernel
theorem dX12_path_33 : decode cX12_path 33 = .ok (.iload_n 2, 1) := by decide +kernel
theorem dX12_path_34 : decode cX12_path 34 = .ok (.ifCond .lt 25, 3) := by decide +kernel
theorem dX12_path_37 : decode cX12_path 37 = .ok (.iload_n 2, 1) := by decide +kernel
theorem dX12_path_38 : decode cX12_path 38 = .ok (.aload_n 0, 1) := by decide +kernel
theorem dX12_path_39 : decode cX12_path 39 = .ok (.getfield 44, 3) := by decide +kernel
theorem dX12_path_42 : decode cX12_path 42 = .ok (.invokevirtual 65, 3) := by decide +kernel
theorem dX12_path_45 : decode cX12_path 45 = .ok (.if_icmp .ge 14, 3) := by decide +kernel
theorem dX12_path_48 : decode cX12_path 48 = .ok (.aload_n 0, 1) := by decide +kernel
theorem dX12_path_49 : decode cX12_path 49 = .ok (.getfield 44, 3) := by decide +kernel
theorem dX12_path_52 : decode cX12_path 52 = .ok (.iload_n 2, 1) := by decide +kernel
theorem dX12_path_53 : decode cX12_path 53 = .ok (.invokevirtual 163, 3) := by decide +kernel
theorem dX12_path_56 : decode cX12_path 56 = .ok (.goto 4, 3) := by decide +kernel
theorem dX12_path_59 : decode cX12_path 59 = .ok (.iconst 0, 1) := by decide +kernel
theorem dX12_path_60 : decode cX12_path 60 = .ok (.ireturn, 1) := by decide +kernel
theorem dX12_text_0 : decode cX12_text 0 = .ok (.aload_n 0, 1) := by decide +kernel
theorem dX12_text_1 : decode cX12_text 1 = .ok (.getfield 50, 3) := by decide +kernel
theorem dX12_text_4 : decode cX12_text 4 = .ok (.iload_n 1, 1) := by decide +kernel
theorem dX12_text_5 : decode cX12_text 5 = .ok (.invokevirtual 122, 3) := by decide +kernel
theorem dX12_text_8 : decode cX12_text 8 = .ok (.ifCond .eq 19, 3) := by decide +kernel
theorem dX12_text_11 : decode cX12_text 11 = .ok (.iload_n 2, 1) := by decide +kernel
theorem dX12_text_12 : decode cX12_text 12 = .ok (.ifCond .lt 15, 3) := by decide +kernel
theorem dX12_text_15 : decode cX12_text 15 = .ok (.aload_n 0, 1) := by decide +kernel
theorem dX12_text_16 : decode cX12_text 16 = .ok (.getfield 50, 3) := by decide +kernel
theorem dX12_text_19 : decode cX12_text 19 = .ok (.iload_n 1, 1) := by decide +kernel
theorem dX12_text_20 : decode cX12_text 20 = .ok (.iload_n 2, 1) := by decide +kernel
theorem dX12_text_21 : decode cX12_text 21 = .ok (.invokevirtual 164, 3) := by decide +kernel
theorem dX12_text_24 : decode cX12_text 24 = .ok (.goto 4, 3) := by decide +kernel
theorem dX12_text_27 : decode cX12_text 27 = .ok (.iconst 0, 1) := by decide +kernel
theorem dX12_text_28 : decode cX12_text 28 = .ok (.ireturn, 1) := by decide +kernel
theorem dX12_takeText_0 : decode cX12_takeText 0 = .ok (.aload_n 0, 1) := by decide +kernel
theorem dX12_takeText_1 : decode cX12_takeText 1 = .ok (.getfield 10, 3) := by decide +kernel
theorem dX12_takeText_4 : decode cX12_takeText 4 = .ok (.invokevirtual 168, 3) := by decide +kernel
theorem dX12_takeText_7 : decode cX12_takeText 7 = .ok (.astore_n 1, 1) := by decide +kernel
theorem dX12_takeText_8 : decode cX12_takeText 8 = .ok (.aload_n 0, 1) := by decide +kernel
theorem dX12_takeText_9 : decode cX12_takeText 9 = .ok (.getfield 10, 3) := by decide +kernel
theorem dX12_takeText_12 : decode cX12_takeText 12 = .ok (.iconst 0, 1) := by decide +kernel
theorem dX12_takeText_13 : decode cX12_takeText 13 = .ok (.invokevirtual 155, 3) := by decide +kernel
theorem dX12_takeText_16 : decode cX12_takeText 16 = .ok (.aload_n 1, 1) := by decide +kernel
theorem dX12_takeText_17 : decode cX12_takeText 17 = .ok (.areturn, 1) := by decide +kernel
def w_X12_init (l : Launch) (G : mv_G) (d : Nat) (u0 : Nat) (h : mv_H) (Q : mv_O → mv_H → Prop) : Prop :=
  vnw h 4 (.inr (1, [.null, .int 0, .int 0, .int 0])) fun a5 h5 =>
  mv_rq l G mJ4_init_da8c8 d 0 (mv_in [.ref a5] 1) [] h5 (vU (fun E h1 => Q (.inr E) h1) (fun h9 =>
  vpu G h9 u0 14 0 (.ref a5) fun h12 =>
  vnw h12 2 (.inr (4, [.null, .null])) fun a16 h16 =>
  mv_rq l G mX2_init d 0 (mv_in [.ref a16] 1) [] h16 (vU (fun E h1 => Q (.inr E) h1) (fun h20 =>
  vpu G h20 u0 14 1 (.ref a16) fun h23 =>
  vnw h23 2 (.inr (7, [.null, .null])) fun a27 h27 =>
  mv_rq l G mX5_init d 0 (mv_in [.ref a27] 1) [] h27 (vU (fun E h1 => Q (.inr E) h1) (fun h31 =>
  vpu G h31 u0 14 2 (.ref a27) fun h34 =>
  vnw h34 3 (.inr (5, [.null, .null, .int 0])) fun a38 h38 =>
  mv_rq l G mX3_init d 0 (mv_in [.ref a38] 2) [] h38 (vU (fun E h1 => Q (.inr E) h1) (fun h42 =>
  vpu G h42 u0 14 3 (.ref a38) fun h45 =>
  vnw h45 2 (.inr (8, [.null, .int 0])) fun a49 h49 =>
  mv_rq l G mX6_init d 0 (mv_in [.ref a49] 1) [] h49 (vU (fun E h1 => Q (.inr E) h1) (fun h53 =>
  vpu G h53 u0 14 4 (.ref a49) fun h56 =>
  vnw h56 4 (.inr (1, [.null, .int 0, .int 0, .int 0])) fun a60 h60 =>
  mv_rq l G mJ4_init_da8c8 d 0 (mv_in [.ref a60] 1) [] h60 (vU (fun E h1 => Q (.inr E) h1) (fun h64 =>
  vpu G h64 u0 14 5 (.ref a60) fun h67 =>
  vnw h67 4 (.inr (3, [.null, .null, .null, .int 0])) fun a71 h71 =>
  mv_rq l G mX1_init d 0 (mv_in [.ref a71] 2) [] h71 (vU (fun E h1 => Q (.inr E) h1) (fun h75 =>
  vpu G h75 u0 14 6 (.ref a71) fun h78 =>
  vnw h78 4 (.inr (3, [.null, .null, .null, .int 0])) fun a82 h82 =>
  mv_rq l G mX1_init d 0 (mv_in [.ref a82] 2) [] h82 (vU (fun E h1 => Q (.inr E) h1) (fun h86 =>
  vpu G h86 u0 14 7 (.ref a82) fun h89 =>
  vpu G h89 u0 14 8 (.null) fun h94 =>
  vpu G h94 u0 14 9 (.int (-1)) fun h99 =>
  Q (.inl none) h99))))))))))))))))
theorem v_X12_init {l : Launch} {G : mv_G} {d : Nat} {u0 : Nat} {h : mv_H} {Q : mv_O → mv_H → Prop} (hG : mv_ok G) (hq : w_X12_init l G d u0 h Q) : mv_rq l G mX12_init (d + 1) 0 (mv_in [.ref u0] 1) [] h Q := by
  unfold w_X12_init at hq
  show mv_rq l G mX12_init (d + 1) 0 [some (.ref u0)] [] h _
  refine q_aload_n dX12_init_0 rfl ?_
  refine q_objI dX12_init_1 ml_RX12_1 obj_in obj_co rfl (Nat.le_of_ble_eq_true rfl) ?_
  refine q_aload_n dX12_init_4 rfl ?_
  obtain ⟨a5, h5, ea5, eh5, hq⟩ := vnw_e hq
  refine q_new (fs := [.null, .int 0, .int 0, .int 0]) (ci := 1) (T := TJ4) (N := 4) tyJ4 tyJ4_ok dX12_init_5 cl_RX12_7 inst_RJ4 init_RJ4 uin_RJ4 rfl (by decide) ?_
  rw [← eh5, ← ea5]
  show mv_rq l G mX12_init (d + 1) 8 [some (.ref u0)] [.ref a5, .ref u0] h5 _
  refine q_dup dX12_init_8 rfl ?_
  refine q_cI (Y := mJ4_init_da8c8) (As := []) (st := [.ref a5, .ref u0]) (b := a5) ic_J4_init_da8c8 dX12_init_9 ml_RX12_9 rfl (Nat.le_of_ble_eq_true rfl) rfl (Nat.le_of_ble_eq_true rfl) hq (fun v h1 hq1 => ?_) (fun E h1 hq1 => ?_)
  rotate_left
  ·
    rcases hq1 with hq1 | ⟨E1, e1, hq1⟩
    · exact nomatch hq1.1
    · obtain rfl := Sum.inr.inj e1; exact q_xout (fun z hz => nomatch hz) hq1
  rcases hq1 with hq1 | ⟨E1, e1, hq1⟩
  rotate_left
  · exact nomatch e1
  obtain ⟨hv, hq⟩ := hq1
  obtain rfl := Sum.inl.inj hv
  clear hv
  obtain ⟨h9, eh9⟩ : ∃ z, z = h1 := ⟨_, rfl⟩
  rw [← eh9] at hq ⊢
  clear eh9
  show mv_rq l G mX12_init (d + 1) 12 [some (.ref u0)] [.ref a5, .ref u0] h9 _
  obtain ⟨fs12, h12, f12, b12, l12, e12, hq⟩ := vpu_e hq
  refine q_putF (k := 0) (T := TX12) (C0 := RX12) (N := 10) (ci := 14) (ty := (.object "java/lang/StringBuilder")) tyX12 tyX12_ok nmX12 dX12_init_12 fl_RX12_10 rfl uin_RX12 (by decide) rfl rfl rfl rfl (by decide +kernel) rfl rfl b12 f12 l12 ?_
  rw [← e12]
  show mv_rq l G mX12_init (d + 1) 15 [some (.ref u0)] [] h12 _
  refine q_aload_n dX12_init_15 rfl ?_
  obtain ⟨a16, h16, ea16, eh16, hq⟩ := vnw_e hq
  refine q_new (fs := [.null, .null]) (ci := 4) (T := TX2) (N := 2) tyX2 tyX2_ok dX12_init_16 cl_RX12_16 inst_RX2 init_RX2 uin_RX2 rfl (by decide) ?_
  rw [← eh16, ← ea16]
  show mv_rq l G mX12_init (d + 1) 19 [some (.ref u0)] [.ref a16, .ref u0] h16 _
  refine q_dup dX12_init_19 rfl ?_
  refine q_cIN (Y := mX2_init) (As := []) (st := [.ref a16, .ref u0]) (b := a16) ic_X2_init dX12_init_20 mn_RX12_18 rfl (Nat.le_of_ble_eq_true rfl) rfl (Nat.le_of_ble_eq_true rfl) hq (fun v h1 hq1 => ?_) (fun E h1 hq1 => ?_)
  rotate_left
  ·
    rcases hq1 with hq1 | ⟨E1, e1, hq1⟩
    · exact nomatch hq1.1
    · obtain rfl := Sum.inr.inj e1; exact q_xout (fun z hz => nomatch hz) hq1
  rcases hq1 with hq1 | ⟨E1, e1, hq1⟩
  rotate_left
  · exact nomatch e1
  obtain ⟨hv, hq⟩ := hq1
  obtain rfl := Sum.inl.inj hv
  clear hv
  obtain ⟨h20, eh20⟩ : ∃ z, z = h1 := ⟨_, rfl⟩
  rw [← eh20] at hq ⊢
  clear eh20
  show mv_rq l G mX12_init (d + 1) 23 [some (.ref u0)] [.ref a16, .ref u0] h20 _
  obtain ⟨fs23, h23, f23, b23, l23, e23, hq⟩ := vpu_e hq
  refine q_putF (k := 1) (T := TX12) (C0 := RX12) (N := 10) (ci := 14) (ty := (.object "TreePaths$DocumentReader")) tyX12 tyX12_ok nmX12 dX12_init_23 fl_RX12_19 rfl uin_RX12 (by decide) rfl rfl rfl rfl (by decide +kernel) rfl rfl b23 f23 l23 ?_
  rw [← e23]
  show mv_rq l G mX12_init (d + 1) 26 [some (.ref u0)] [] h23 _
  refine q_aload_n dX12_init_26 rfl ?_
  obtain ⟨a27, h27, ea27, eh27, hq⟩ := vnw_e hq
  refine q_new (fs := [.null, .null]) (ci := 7) (T := TX5) (N := 2) tyX5 tyX5_ok dX12_init_27 cl_RX12_23 inst_RX5 init_RX5 uin_RX5 rfl (by decide) ?_
  rw [← eh27, ← ea27]
  show mv_rq l G mX12_init (d + 1) 30 [some (.ref u0)] [.ref a27, .ref u0] h27 _
  refine q_dup dX12_init_30 rfl ?_
  refine q_cIN (Y := mX5_init) (As := []) (st := [.ref a27, .ref u0]) (b := a27) ic_X5_init dX12_init_31 mn_RX12_25 rfl (Nat.le_of_ble_eq_true rfl) rfl (Nat.le_of_ble_eq_true rfl) hq (fun v h1 hq1 => ?_) (fun E h1 hq1 => ?_)
  rotate_left
  ·
    rcases hq1 with hq1 | ⟨E1, e1, hq1⟩
    · exact nomatch hq1.1
    · obtain rfl := Sum.inr.inj e1; exact q_xout (fun z hz => nomatch hz) hq1
  rcases hq1 with hq1 | ⟨E1, e1, hq1⟩
  rotate_left
  · exact nomatch e1
  obtain ⟨hv, hq⟩ := hq1
  obtain rfl := Sum.inl.inj hv
  clear hv
  obtain ⟨h31, eh31⟩ : ∃ z, z = h1 := ⟨_, rfl⟩
  rw [← eh31] at hq ⊢
  clear eh31
  show mv_rq l G mX12_init (d + 1) 34 [some (.ref u0)] [.ref a27, .ref u0] h31 _
  obtain ⟨fs34, h34, f34, b34, l34, e34, hq⟩ := vpu_e hq
  refine q_putF (k := 2) (T := TX12) (C0 := RX12) (N := 10) (ci := 14) (ty := (.object "TreePaths$QueryReader")) tyX12 tyX12_ok nmX12 dX12_init_34 fl_RX12_26 rfl uin_RX12 (by decide) rfl rfl rfl rfl (by decide +kernel) rfl rfl b34 f34 l34 ?_
  rw [← e34]
  show mv_rq l G mX12_init (d + 1) 37 [some (.ref u0)] [] h34 _
  refine q_aload_n dX12_init_37 rfl ?_
  obtain ⟨a38, h38, ea38, eh38, hq⟩ := vnw_e hq
  refine q_new (fs := [.null, .null, .int 0]) (ci := 5) (T := TX3) (N := 3) tyX3 tyX3_ok dX12_init_38 cl_RX12_30 inst_RX3 init_RX3 uin_RX3 rfl (by decide) ?_
  rw [← eh38, ← ea38]
  show mv_rq l G mX12_init (d + 1) 41 [some (.ref u0)] [.ref a38, .ref u0] h38 _
  refine q_dup dX12_init_41 rfl ?_
  refine q_cI (Y := mX3_init) (As := []) (st := [.ref a38, .ref u0]) (b := a38) ic_X3_init dX12_init_42 ml_RX12_32 rfl (Nat.le_of_ble_eq_true rfl) rfl (Nat.le_of_ble_eq_true rfl) hq (fun v h1 hq1 => ?_) (fun E h1 hq1 => ?_)
  rotate_left
  ·
    rcases hq1 with hq1 | ⟨E1, e1, hq1⟩
    · exact nomatch hq1.1
    · obtain rfl := Sum.inr.inj e1; exact q_xout (fun z hz => nomatch hz) hq1
  rcases hq1 with hq1 | ⟨E1, e1, hq1⟩
  rotate_left
  · exact nomatch e1
  obtain ⟨hv, hq⟩ := hq1
  obtain rfl := Sum.inl.inj hv
  clear hv
  obtain ⟨h42, eh42⟩ : ∃ z, z = h1 := ⟨_, rfl⟩
  rw [← eh42] at hq ⊢
  clear eh42
  show mv_rq l G mX12_init (d + 1) 45 [some (.ref u0)] [.ref a38, .ref u0] h42 _
  obtain ⟨fs45, h45, f45, b45, l45, e45, hq⟩ := vpu_e hq
  refine q_putF (k := 3) (T := TX12) (C0 := RX12) (N := 10) (ci := 14) (ty := (.object "TreePaths$Finder")) tyX12 tyX12_ok nmX12 dX12_init_45 fl_RX12_33 rfl uin_RX12 (by decide) rfl rfl rfl rfl (by decide +kernel) rfl rfl b45 f45 l45 ?_
  rw [← e45]
  show mv_rq l G mX12_init (d + 1) 48 [some (.ref u0)] [] h45 _
  refine q_aload_n dX12_init_48 rfl ?_
  obtain ⟨a49, h49, ea49, eh49, hq⟩ := vnw_e hq
  refine q_new (fs := [.null, .int 0]) (ci := 8) (T := TX6) (N := 2) tyX6 tyX6_ok dX12_init_49 cl_RX12_37 inst_RX6 init_RX6 uin_RX6 rfl (by decide) ?_
  rw [← eh49, ← ea49]
  show mv_rq l G mX12_init (d + 1) 52 [some (.ref u0)] [.ref a49, .ref u0] h49 _
  refine q_dup dX12_init_52 rfl ?_
  refine q_cIN (Y := mX6_init) (As := []) (st := [.ref a49, .ref u0]) (b := a49) ic_X6_init dX12_init_53 mn_RX12_39 rfl (Nat.le_of_ble_eq_true rfl) rfl (Nat.le_of_ble_eq_true rfl) hq (fun v h1 hq1 => ?_) (fun E h1 hq1 => ?_)
  rotate_left
  ·
    rcases hq1 with hq1 | ⟨E1, e1, hq1⟩
    · exact nomatch hq1.1
    · obtain rfl := Sum.inr.inj e1; exact q_xout (fun z hz => nomatch hz) hq1
  rcases hq1 with hq1 | ⟨E1, e1, hq1⟩
  rotate_left
  · exact nomatch e1
  obtain ⟨hv, hq⟩ := hq1
  obtain rfl := Sum.inl.inj hv
  clear hv
  obtain ⟨h53, eh53⟩ : ∃ z, z = h1 := ⟨_, rfl⟩
  rw [← eh53] at hq ⊢
  clear eh53
  show mv_rq l G mX12_init (d + 1) 56 [some (.ref u0)] [.ref a49, .ref u0] h53 _
  obtain ⟨fs56, h56, f56, b56, l56, e56, hq⟩ := vpu_e hq
  refine q_putF (k := 4) (T := TX12) (C0 := RX12) (N := 10) (ci := 14) (ty := (.object "TreePaths$Row")) tyX12 tyX12_ok nmX12 dX12_init_56 fl_RX12_40 rfl uin_RX12 (by decide) rfl rfl rfl rfl (by decide +kernel) rfl rfl b56 f56 l56 ?_
  rw [← e56]
  show mv_rq l G mX12_init (d + 1) 59 [some (.ref u0)] [] h56 _
  refine q_aload_n dX12_init_59 rfl ?_
  obtain ⟨a60, h60, ea60, eh60, hq⟩ := vnw_e hq
  refine q_new (fs := [.null, .int 0, .int 0, .int 0]) (ci := 1) (T := TJ4) (N := 4) tyJ4 tyJ4_ok dX12_init_60 cl_RX12_7 inst_RJ4 init_RJ4 uin_RJ4 rfl (by decide) ?_
  rw [← eh60, ← ea60]
  show mv_rq l G mX12_init (d + 1) 63 [some (.ref u0)] [.ref a60, .ref u0] h60 _
  refine q_dup dX12_init_63 rfl ?_
  refine q_cI (Y := mJ4_init_da8c8) (As := []) (st := [.ref a60, .ref u0]) (b := a60) ic_J4_init_da8c8 dX12_init_64 ml_RX12_9 rfl (Nat.le_of_ble_eq_true rfl) rfl (Nat.le_of_ble_eq_true rfl) hq (fun v h1 hq1 => ?_) (fun E h1 hq1 => ?_)
  rotate_left
  ·
    rcases hq1 with hq1 | ⟨E1, e1, hq1⟩
    · exact nomatch hq1.1
    · obtain rfl := Sum.inr.inj e1; exact q_xout (fun z hz => nomatch hz) hq1
  rcases hq1 with hq1 | ⟨E1, e1, hq1⟩
  rotate_left
  · exact nomatch e1
  obtain ⟨hv, hq⟩ := hq1
  obtain rfl := Sum.inl.inj hv
  clear hv
  obtain ⟨h64, eh64⟩ : ∃ z, z = h1 := ⟨_, rfl⟩
  rw [← eh64] at hq ⊢
  clear eh64
  show mv_rq l G mX12_init (d + 1) 67 [some (.ref u0)] [.ref a60, .ref u0] h64 _
  obtain ⟨fs67, h67, f67, b67, l67, e67, hq⟩ := vpu_e hq
  refine q_putF (k := 5) (T := TX12) (C0 := RX12) (N := 10) (ci := 14) (ty := (.object "java/lang/StringBuilder")) tyX12 tyX12_ok nmX12 dX12_init_67 fl_RX12_44 rfl uin_RX12 (by decide) rfl rfl rfl rfl (by decide +kernel) rfl rfl b67 f67 l67 ?_
  rw [← e67]
  show mv_rq l G mX12_init (d + 1) 70 [some (.ref u0)] [] h67 _
  refine q_aload_n dX12_init_70 rfl ?_
  obtain ⟨a71, h71, ea71, eh71, hq⟩ := vnw_e hq
  refine q_new (fs := [.null, .null, .null, .int 0]) (ci := 3) (T := TX1) (N := 4) tyX1 tyX1_ok dX12_init_71 cl_RX12_47 inst_RX1 init_RX1 uin_RX1 rfl (by decide) ?_
  rw [← eh71, ← ea71]
  show mv_rq l G mX12_init (d + 1) 74 [some (.ref u0)] [.ref a71, .ref u0] h71 _
  refine q_dup dX12_init_74 rfl ?_
  refine q_cI (Y := mX1_init) (As := []) (st := [.ref a71, .ref u0]) (b := a71) ic_X1_init dX12_init_75 ml_RX12_49 rfl (Nat.le_of_ble_eq_true rfl) rfl (Nat.le_of_ble_eq_true rfl) hq (fun v h1 hq1 => ?_) (fun E h1 hq1 => ?_)
  rotate_left
  ·
    rcases hq1 with hq1 | ⟨E1, e1, hq1⟩
    · exact nomatch hq1.1
    · obtain rfl := Sum.inr.inj e1; exact q_xout (fun z hz => nomatch hz) hq1
  rcases hq1 with hq1 | ⟨E1, e1, hq1⟩
  rotate_left
  · exact nomatch e1
  obtain ⟨hv, hq⟩ := hq1
  obtain rfl := Sum.inl.inj hv
  clear hv
  obtain ⟨h75, eh75⟩ : ∃ z, z = h1 := ⟨_, rfl⟩
  rw [← eh75] at hq ⊢
  clear eh75
  show mv_rq l G mX12_init (d + 1) 78 [some (.ref u0)] [.ref a71, .ref u0] h75 _
  obtain ⟨fs78, h78, f78, b78, l78, e78, hq⟩ := vpu_e hq
  refine q_putf (k := 6) (T := TX12) (C0 := RX12) (N := 10) (ci := 14) (ty := (.object "TreePaths$Document")) tyX12 tyX12_ok nmX12 dX12_init_78 fl_RX12_50 rfl uin_RX12 (by decide) rfl rfl (by decide +kernel) rfl rfl b78 f78 l78 ?_
  rw [← e78]
  show mv_rq l G mX12_init (d + 1) 81 [some (.ref u0)] [] h78 _
  refine q_aload_n dX12_init_81 rfl ?_
  obtain ⟨a82, h82, ea82, eh82, hq⟩ := vnw_e hq
  refine q_new (fs := [.null, .null, .null, .int 0]) (ci := 3) (T := TX1) (N := 4) tyX1 tyX1_ok dX12_init_82 cl_RX12_47 inst_RX1 init_RX1 uin_RX1 rfl (by decide) ?_
  rw [← eh82, ← ea82]
  show mv_rq l G mX12_init (d + 1) 85 [some (.ref u0)] [.ref a82, .ref u0] h82 _
  refine q_dup dX12_init_85 rfl ?_
  refine q_cI (Y := mX1_init) (As := []) (st := [.ref a82, .ref u0]) (b := a82) ic_X1_init dX12_init_86 ml_RX12_49 rfl (Nat.le_of_ble_eq_true rfl) rfl (Nat.le_of_ble_eq_true rfl) hq (fun v h1 hq1 => ?_) (fun E h1 hq1 => ?_)
  rotate_left
  ·
    rcases hq1 with hq1 | ⟨E1, e1, hq1⟩
    · exact nomatch hq1.1
    · obtain rfl := Sum.inr.inj e1; exact q_xout (fun z hz => nomatch hz) hq1
  rcases hq1 with hq1 | ⟨E1, e1, hq1⟩
  rotate_left
  · exact nomatch e1
  obtain ⟨hv, hq⟩ := hq1
  obtain rfl := Sum.inl.inj hv
  clear hv
  obtain ⟨h86, eh86⟩ : ∃ z, z = h1 := ⟨_, rfl⟩
  rw [← eh86] at hq ⊢
  clear eh86
  show mv_rq l G mX12_init (d + 1) 89 [some (.ref u0)] [.ref a82, .ref u0] h86 _
  obtain ⟨fs89, h89, f89, b89, l89, e89, hq⟩ := vpu_e hq
  refine q_putf (k := 7) (T := TX12) (C0 := RX12) (N := 10) (ci := 14) (ty := (.object "TreePaths$Document")) tyX12 tyX12_ok nmX12 dX12_init_89 fl_RX12_54 rfl uin_RX12 (by decide) rfl rfl (by decide +kernel) rfl rfl b89 f89 l89 ?_
  rw [← e89]
  show mv_rq l G mX12_init (d + 1) 92 [some (.ref u0)] [] h89 _
  refine q_aload_n dX12_init_92 rfl ?_
  refine q_null dX12_init_93 ?_
  obtain ⟨fs94, h94, f94, b94, l94, e94, hq⟩ := vpu_e hq
  refine q_putf (k := 8) (T := TX12) (C0 := RX12) (N := 10) (ci := 14) (ty := (.object "TreePaths$Path")) tyX12 tyX12_ok nmX12 dX12_init_94 fl_RX12_57 rfl uin_RX12 (by decide) rfl rfl (by decide +kernel) rfl rfl b94 f94 l94 ?_
  rw [← e94]
  show mv_rq l G mX12_init (d + 1) 97 [some (.ref u0)] [] h94 _
  refine q_aload_n dX12_init_97 rfl ?_
  refine q_iconst (v := (-1)) dX12_init_98 (by decide) ?_
  obtain ⟨fs99, h99, f99, b99, l99, e99, hq⟩ := vpu_e hq
  refine q_putf (k := 9) (T := TX12) (C0 := RX12) (N := 10) (ci := 14) (ty := .int) tyX12 tyX12_ok nmX12 dX12_init_99 fl_RX12_61 rfl uin_RX12 (by decide) rfl rfl (by decide +kernel) rfl rfl b99 f99 l99 ?_
  rw [← e99]
  show mv_rq l G mX12_init (d + 1) 102 [some (.ref u0)] [] h99 _
  exact q_vret dX12_init_102 rfl hq
def w_X12_type (l : Launch) (G : mv_G) (d : Nat) (u0 : Nat) (u1 : Int32) (h : mv_H) (Q : mv_O → mv_H → Prop) : Prop :=
  vif (u1 < 32) (
    Q (.inl (some (.int 0))) h) (
    vif (126 < u1) (
      Q (.inl (some (.int 0))) h) (
      vgb h u0 14 0 fun x13 =>
      vob h x13 1 (
      mv_rq l G mJ4_length_8abf5 d 0 (mv_in [.ref x13] 1) [] h (vI (fun E h1 => Q (.inr E) h1) (fun x16 h16 =>
      vif (x16 < 160) (
        vgb h16 u0 14 0 fun x28 =>
        vob h16 x28 1 (
        mv_rq l G mJ4_append_cf468 d 0 (mv_in [.ref x28, .int u1] 2) [] h16 (vB (fun E h1 => Q (.inr E) h1) (fun x32 h32 =>
        Q (.inl (some (.int 1))) h32)))) (
        Q (.inl (some (.int 0))) h16))))))
theorem v_X12_type {l : Launch} {G : mv_G} {d : Nat} {u0 : Nat} {u1 : Int32} {h : mv_H} {Q : mv_O → mv_H → Prop} (hG : mv_ok G) (hq : w_X12_type l G d u0 u1 h Q) : mv_rq l G mX12_type (d + 1) 0 (mv_in [.ref u0, .int u1] 2) [] h Q := by
  unfold w_X12_type at hq
  show mv_rq l G mX12_type (d + 1) 0 [some (.ref u0), some (.int u1)] [] h _
  refine q_iload_n dX12_type_0 rfl ?_
  refine q_bipush (v := 32) dX12_type_1 (by decide) ?_
  refine q_icmp_lt (tgt := 25) dX12_type_3 (by decide) (fun c3 => ?_) (fun c3 => ?_)
  ·
    have hq := vif_t hq c3
    refine q_iconst (v := 0) dX12_type_25 (by decide) ?_
    exact q_iret (ty := .boolean) dX12_type_26 rfl rfl hq
  ·
    have hq := vif_f hq c3
    refine q_iload_n dX12_type_6 rfl ?_
    refine q_bipush (v := 126) dX12_type_7 (by decide) ?_
    refine q_icmp_gt (tgt := 25) dX12_type_9 (by decide) (fun c9 => ?_) (fun c9 => ?_)
    ·
      have hq := vif_t hq c9
      refine q_iconst (v := 0) dX12_type_25 (by decide) ?_
      exact q_iret (ty := .boolean) dX12_type_26 rfl rfl hq
    ·
      have hq := vif_f hq c9
      refine q_aload_n dX12_type_12 rfl ?_
      obtain ⟨fs13, x13, f13, g13, hq⟩ := vgb_e hq
      refine q_getf (k := 0) (T := TX12) (C0 := RX12) (N := 10) (ci := 14) dX12_type_13 fl_RX12_10 rfl uin_RX12 (by decide) rfl f13 g13 ?_
      obtain ⟨⟨fs16, f16⟩, hq⟩ := vob_e hq
      refine q_cV (Y := mJ4_length_8abf5) (As := []) (st := []) (b := x13) (ci := 1) vc_J4_length_8abf5 dX12_type_16 ml_RX12_65 rfl f16 rfl (Nat.le_of_ble_eq_true rfl) rfl (Nat.le_of_ble_eq_true rfl) hq (fun v h1 hq1 => ?_) (fun E h1 hq1 => ?_)
      rotate_left
      ·
        rcases hq1 with hq1 | ⟨E1, e1, hq1⟩
        · obtain ⟨_, z, _⟩ := hq1; exact nomatch z
        · obtain rfl := Sum.inr.inj e1; exact q_xout (fun z hz => nomatch hz) hq1
      rcases hq1 with hq1 | ⟨E1, e1, hq1⟩
      rotate_left
      · exact nomatch e1
      obtain ⟨x16, hv, hq⟩ := hq1
      obtain rfl := Sum.inl.inj hv
      clear hv
      obtain ⟨h16, eh16⟩ : ∃ z, z = h1 := ⟨_, rfl⟩
      rw [← eh16] at hq ⊢
      clear eh16
      show mv_rq l G mX12_type (d + 1) 19 [some (.ref u0), some (.int u1)] [.int x16] h16 _
      refine q_sipush (v := 160) dX12_type_19 (by decide) ?_
      refine q_icmp_lt (tgt := 27) dX12_type_22 (by decide) (fun c22 => ?_) (fun c22 => ?_)
      ·
        have hq := vif_t hq c22
        refine q_aload_n dX12_type_27 rfl ?_
        obtain ⟨fs28, x28, f28, g28, hq⟩ := vgb_e hq
        refine q_getf (k := 0) (T := TX12) (C0 := RX12) (N := 10) (ci := 14) dX12_type_28 fl_RX12_10 rfl uin_RX12 (by decide) rfl f28 g28 ?_
        refine q_iload_n dX12_type_31 rfl ?_
        obtain ⟨⟨fs32, f32⟩, hq⟩ := vob_e hq
        refine q_cV (Y := mJ4_append_cf468) (As := [.int u1]) (st := []) (b := x28) (ci := 1) vc_J4_append_cf468 dX12_type_32 ml_RX12_69 rfl f32 rfl (Nat.le_of_ble_eq_true rfl) rfl (Nat.le_of_ble_eq_true rfl) hq (fun v h1 hq1 => ?_) (fun E h1 hq1 => ?_)
        rotate_left
        ·
          rcases hq1 with hq1 | ⟨E1, e1, hq1⟩
          · obtain ⟨_, z, _⟩ := hq1; exact nomatch z
          · obtain rfl := Sum.inr.inj e1; exact q_xout (fun z hz => nomatch hz) hq1
        rcases hq1 with hq1 | ⟨E1, e1, hq1⟩
        rotate_left
        · exact nomatch e1
        obtain ⟨x32, hv, hq⟩ := hq1
        obtain rfl := Sum.inl.inj hv
        clear hv
        obtain ⟨h32, eh32⟩ : ∃ z, z = h1 := ⟨_, rfl⟩
        rw [← eh32] at hq ⊢
        clear eh32
        show mv_rq l G mX12_type (d + 1) 35 [some (.ref u0), some (.int u1)] [.ref x32] h32 _
        refine q_pop dX12_type_35 rfl ?_
        refine q_iconst (v := 1) dX12_type_36 (by decide) ?_
        exact q_iret (ty := .boolean) dX12_type_37 rfl rfl hq
      ·
        have hq := vif_f hq c22
        refine q_iconst (v := 0) dX12_type_25 (by decide) ?_
        exact q_iret (ty := .boolean) dX12_type_26 rfl rfl hq
def w_X12_document (l : Launch) (G : mv_G) (d : Nat) (u0 : Nat) (h : mv_H) (Q : mv_O → mv_H → Prop) : Prop :=
  vgb h u0 14 1 fun x2 =>
  vgb h u0 14 7 fun x6 =>
  vob h u0 14 (
  mv_rq l G mX12_takeText d 0 (mv_in [.ref u0] 2) [] h (vB (fun E h1 => Q (.inr E) h1) (fun x10 h10 =>
  vob h10 x2 4 (
  mv_rq l G mX2_readInto d 0 (mv_in [.ref x2, .ref x6, .ref x10] 4) [] h10 (vI (fun E h1 => Q (.inr E) h1) (fun x13 h13 =>
  vpu G h13 u0 14 9 (.int x13) fun h16 =>
  vgi h16 u0 14 9 fun x20 =>
  vif (x20 = (-1)) (
    vgb h16 u0 14 6 fun x38 =>
    vgb h16 u0 14 7 fun x44 =>
    vpu G h16 u0 14 6 (.ref x44) fun h47 =>
    vpu G h47 u0 14 7 (.ref x38) fun h52 =>
    vgb h52 u0 14 4 fun x56 =>
    vob h52 x56 8 (
    mv_rq l G mX6_clear d 0 (mv_in [.ref x56] 1) [] h52 (vU (fun E h1 => Q (.inr E) h1) (fun h59 =>
    vgb h59 u0 14 6 fun x63 =>
    vgi h59 x63 3 3 fun x66 =>
    Q (.inl (some (.int x66))) h59)))) (
    Q (.inr ("java/lang/IllegalArgumentException", h16.1)) (thr h16))))))))
theorem v_X12_document {l : Launch} {G : mv_G} {d : Nat} {u0 : Nat} {h : mv_H} {Q : mv_O → mv_H → Prop} (hG : mv_ok G) (hX : mv_okX l G) (hd : 6 ≤ d) (hq : w_X12_document l G d u0 h Q) : mv_rq l G mX12_document (d + 1) 0 (mv_in [.ref u0] 2) [] h Q := by
  unfold w_X12_document at hq
  show mv_rq l G mX12_document (d + 1) 0 [some (.ref u0), none] [] h _
  refine q_aload_n dX12_document_0 rfl ?_
  refine q_aload_n dX12_document_1 rfl ?_
  obtain ⟨fs2, x2, f2, g2, hq⟩ := vgb_e hq
  refine q_getf (k := 1) (T := TX12) (C0 := RX12) (N := 10) (ci := 14) dX12_document_2 fl_RX12_19 rfl uin_RX12 (by decide) rfl f2 g2 ?_
  refine q_aload_n dX12_document_5 rfl ?_
  obtain ⟨fs6, x6, f6, g6, hq⟩ := vgb_e hq
  refine q_getf (k := 7) (T := TX12) (C0 := RX12) (N := 10) (ci := 14) dX12_document_6 fl_RX12_54 rfl uin_RX12 (by decide) rfl f6 g6 ?_
  refine q_aload_n dX12_document_9 rfl ?_
  obtain ⟨⟨fs10, f10⟩, hq⟩ := vob_e hq
  refine q_cV (Y := mX12_takeText) (As := []) (st := [.ref x6, .ref x2, .ref u0]) (b := u0) (ci := 14) vc_X12_takeText dX12_document_10 ml_RX12_73 rfl f10 rfl (Nat.le_of_ble_eq_true rfl) rfl (Nat.le_of_ble_eq_true rfl) hq (fun v h1 hq1 => ?_) (fun E h1 hq1 => ?_)
  rotate_left
  ·
    rcases hq1 with hq1 | ⟨E1, e1, hq1⟩
    · obtain ⟨_, z, _⟩ := hq1; exact nomatch z
    · obtain rfl := Sum.inr.inj e1; exact q_xout (fun z hz => nomatch hz) hq1
  rcases hq1 with hq1 | ⟨E1, e1, hq1⟩
  rotate_left
  · exact nomatch e1
  obtain ⟨x10, hv, hq⟩ := hq1
  obtain rfl := Sum.inl.inj hv
  clear hv
  obtain ⟨h10, eh10⟩ : ∃ z, z = h1 := ⟨_, rfl⟩
  rw [← eh10] at hq ⊢
  clear eh10
  show mv_rq l G mX12_document (d + 1) 13 [some (.ref u0), none] [.ref x10, .ref x6, .ref x2, .ref u0] h10 _
  obtain ⟨⟨fs13, f13⟩, hq⟩ := vob_e hq
  refine q_cV (Y := mX2_readInto) (As := [.ref x6, .ref x10]) (st := [.ref u0]) (b := x2) (ci := 4) vc_X2_readInto dX12_document_13 ml_RX12_77 rfl f13 rfl (Nat.le_of_ble_eq_true rfl) rfl (Nat.le_of_ble_eq_true rfl) hq (fun v h1 hq1 => ?_) (fun E h1 hq1 => ?_)
  rotate_left
  ·
    rcases hq1 with hq1 | ⟨E1, e1, hq1⟩
    · obtain ⟨_, z, _⟩ := hq1; exact nomatch z
    · obtain rfl := Sum.inr.inj e1; exact q_xout (fun z hz => nomatch hz) hq1
  rcases hq1 with hq1 | ⟨E1, e1, hq1⟩
  rotate_left
  · exact nomatch e1
  obtain ⟨x13, hv, hq⟩ := hq1
  obtain rfl := Sum.inl.inj hv
  clear hv
  obtain ⟨h13, eh13⟩ : ∃ z, z = h1 := ⟨_, rfl⟩
  rw [← eh13] at hq ⊢
  clear eh13
  show mv_rq l G mX12_document (d + 1) 16 [some (.ref u0), none] [.int x13, .ref u0] h13 _
  obtain ⟨fs16, h16, f16, b16, l16, e16, hq⟩ := vpu_e hq
  refine q_putf (k := 9) (T := TX12) (C0 := RX12) (N := 10) (ci := 14) (ty := .int) tyX12 tyX12_ok nmX12 dX12_document_16 fl_RX12_61 rfl uin_RX12 (by decide) rfl rfl (by decide +kernel) rfl rfl b16 f16 l16 ?_
  rw [← e16]
  show mv_rq l G mX12_document (d + 1) 19 [some (.ref u0), none] [] h16 _
  refine q_aload_n dX12_document_19 rfl ?_
  obtain ⟨fs20, x20, f20, g20, hq⟩ := vgi_e hq
  refine q_getf (k := 9) (T := TX12) (C0 := RX12) (N := 10) (ci := 14) dX12_document_20 fl_RX12_61 rfl uin_RX12 (by decide) rfl f20 g20 ?_
  refine q_iconst (v := (-1)) dX12_document_23 (by decide) ?_
  refine q_icmp_eq (tgt := 37) dX12_document_24 (by decide) (fun c24 => ?_) (fun c24 => ?_)
  ·
    have hq := vif_t hq c24
    refine q_aload_n dX12_document_37 rfl ?_
    obtain ⟨fs38, x38, f38, g38, hq⟩ := vgb_e hq
    refine q_getf (k := 6) (T := TX12) (C0 := RX12) (N := 10) (ci := 14) dX12_document_38 fl_RX12_50 rfl uin_RX12 (by decide) rfl f38 g38 ?_
    refine q_astore_n dX12_document_41 (Nat.le_of_ble_eq_true rfl) rfl ?_
    show mv_rq l G mX12_document (d + 1) 42 [some (.ref u0), some (.ref x38)] [] h16 _
    refine q_aload_n dX12_document_42 rfl ?_
    refine q_aload_n dX12_document_43 rfl ?_
    obtain ⟨fs44, x44, f44, g44, hq⟩ := vgb_e hq
    refine q_getf (k := 7) (T := TX12) (C0 := RX12) (N := 10) (ci := 14) dX12_document_44 fl_RX12_54 rfl uin_RX12 (by decide) rfl f44 g44 ?_
    obtain ⟨fs47, h47, f47, b47, l47, e47, hq⟩ := vpu_e hq
    refine q_putf (k := 6) (T := TX12) (C0 := RX12) (N := 10) (ci := 14) (ty := (.object "TreePaths$Document")) tyX12 tyX12_ok nmX12 dX12_document_47 fl_RX12_50 rfl uin_RX12 (by decide) rfl rfl (by decide +kernel) rfl rfl b47 f47 l47 ?_
    rw [← e47]
    show mv_rq l G mX12_document (d + 1) 50 [some (.ref u0), some (.ref x38)] [] h47 _
    refine q_aload_n dX12_document_50 rfl ?_
    refine q_aload_n dX12_document_51 rfl ?_
    obtain ⟨fs52, h52, f52, b52, l52, e52, hq⟩ := vpu_e hq
    refine q_putf (k := 7) (T := TX12) (C0 := RX12) (N := 10) (ci := 14) (ty := (.object "TreePaths$Document")) tyX12 tyX12_ok nmX12 dX12_document_52 fl_RX12_54 rfl uin_RX12 (by decide) rfl rfl (by decide +kernel) rfl rfl b52 f52 l52 ?_
    rw [← e52]
    show mv_rq l G mX12_document (d + 1) 55 [some (.ref u0), some (.ref x38)] [] h52 _
    refine q_aload_n dX12_document_55 rfl ?_
    obtain ⟨fs56, x56, f56, g56, hq⟩ := vgb_e hq
    refine q_getf (k := 4) (T := TX12) (C0 := RX12) (N := 10) (ci := 14) dX12_document_56 fl_RX12_40 rfl uin_RX12 (by decide) rfl f56 g56 ?_
    obtain ⟨⟨fs59, f59⟩, hq⟩ := vob_e hq
    refine q_cV (Y := mX6_clear) (As := []) (st := []) (b := x56) (ci := 8) vc_X6_clear dX12_document_59 ml_RX12_88 rfl f59 rfl (Nat.le_of_ble_eq_true rfl) rfl (Nat.le_of_ble_eq_true rfl) hq (fun v h1 hq1 => ?_) (fun E h1 hq1 => ?_)
    rotate_left
    ·
      rcases hq1 with hq1 | ⟨E1, e1, hq1⟩
      · exact nomatch hq1.1
      · obtain rfl := Sum.inr.inj e1; exact q_xout (fun z hz => nomatch hz) hq1
    rcases hq1 with hq1 | ⟨E1, e1, hq1⟩
    rotate_left
    · exact nomatch e1
    obtain ⟨hv, hq⟩ := hq1
    obtain rfl := Sum.inl.inj hv
    clear hv
    obtain ⟨h59, eh59⟩ : ∃ z, z = h1 := ⟨_, rfl⟩
    rw [← eh59] at hq ⊢
    clear eh59
    show mv_rq l G mX12_document (d + 1) 62 [some (.ref u0), some (.ref x38)] [] h59 _
    refine q_aload_n dX12_document_62 rfl ?_
    obtain ⟨fs63, x63, f63, g63, hq⟩ := vgb_e hq
    refine q_getf (k := 6) (T := TX12) (C0 := RX12) (N := 10) (ci := 14) dX12_document_63 fl_RX12_50 rfl uin_RX12 (by decide) rfl f63 g63 ?_
    obtain ⟨fs66, x66, f66, g66, hq⟩ := vgi_e hq
    refine q_getf (k := 3) (T := TX1) (C0 := RX1) (N := 4) (ci := 3) dX12_document_66 fl_RX12_91 rfl uin_RX1 (by decide) rfl f66 g66 ?_
    exact q_iret (ty := .int) dX12_document_69 rfl rfl hq
  ·
    have hq := vif_f hq c24
    exact q_throw (names := mv_exn) hX.1 (by decide +kernel) (by decide +kernel) cl_RX12_81 ini_IllegalArgumentException (hX.2.2.2.2.1).choose_spec tx_RX12_85 hX.2.1 hX.2.2.1 rfl rfl dX12_document_27 dX12_document_30 dX12_document_31 dX12_document_33 dX12_document_36 (by show 2 + 3 < _; omega) (Nat.le_of_ble_eq_true rfl) hq
def w_X12_query (l : Launch) (G : mv_G) (d : Nat) (u0 : Nat) (h : mv_H) (Q : mv_O → mv_H → Prop) : Prop :=
  vgb h u0 14 2 fun x2 =>
  vob h u0 14 (
  mv_rq l G mX12_takeText d 0 (mv_in [.ref u0] 2) [] h (vB (fun E h1 => Q (.inr E) h1) (fun x6 h6 =>
  vob h6 x2 7 (
  mv_rq l G mX5_readFrom d 0 (mv_in [.ref x2, .ref x6] 3) [] h6 (vI (fun E h1 => Q (.inr E) h1) (fun x9 h9 =>
  vpu G h9 u0 14 9 (.int x9) fun h12 =>
  vgi h12 u0 14 9 fun x16 =>
  vif (x16 = (-1)) (
    vgb h12 u0 14 2 fun x35 =>
    vgr h12 x35 7 1 fun x38 =>
    vpu G h12 u0 14 8 (va_rf x38) fun h41 =>
    vgr h41 u0 14 8 fun x45 =>
    vnn x45 fun a48 =>
    vgi h41 a48 6 3 fun x48 =>
    Q (.inl (some (.int x48))) h41) (
    Q (.inr ("java/lang/IllegalArgumentException", h12.1)) (thr h12))))))))
theorem v_X12_query {l : Launch} {G : mv_G} {d : Nat} {u0 : Nat} {h : mv_H} {Q : mv_O → mv_H → Prop} (hG : mv_ok G) (hX : mv_okX l G) (hd : 6 ≤ d) (hq : w_X12_query l G d u0 h Q) : mv_rq l G mX12_query (d + 1) 0 (mv_in [.ref u0] 1) [] h Q := by
  unfold w_X12_query at hq
  show mv_rq l G mX12_query (d + 1) 0 [some (.ref u0)] [] h _
  refine q_aload_n dX12_query_0 rfl ?_
  refine q_aload_n dX12_query_1 rfl ?_
  obtain ⟨fs2, x2, f2, g2, hq⟩ := vgb_e hq
  refine q_getf (k := 2) (T := TX12) (C0 := RX12) (N := 10) (ci := 14) dX12_query_2 fl_RX12_26 rfl uin_RX12 (by decide) rfl f2 g2 ?_
  refine q_aload_n dX12_query_5 rfl ?_
  obtain ⟨⟨fs6, f6⟩, hq⟩ := vob_e hq
  refine q_cV (Y := mX12_takeText) (As := []) (st := [.ref x2, .ref u0]) (b := u0) (ci := 14) vc_X12_takeText dX12_query_6 ml_RX12_73 rfl f6 rfl (Nat.le_of_ble_eq_true rfl) rfl (Nat.le_of_ble_eq_true rfl) hq (fun v h1 hq1 => ?_) (fun E h1 hq1 => ?_)
  rotate_left
  ·
    rcases hq1 with hq1 | ⟨E1, e1, hq1⟩
    · obtain ⟨_, z, _⟩ := hq1; exact nomatch z
    · obtain rfl := Sum.inr.inj e1; exact q_xout (fun z hz => nomatch hz) hq1
  rcases hq1 with hq1 | ⟨E1, e1, hq1⟩
  rotate_left
  · exact nomatch e1
  obtain ⟨x6, hv, hq⟩ := hq1
  obtain rfl := Sum.inl.inj hv
  clear hv
  obtain ⟨h6, eh6⟩ : ∃ z, z = h1 := ⟨_, rfl⟩
  rw [← eh6] at hq ⊢
  clear eh6
  show mv_rq l G mX12_query (d + 1) 9 [some (.ref u0)] [.ref x6, .ref x2, .ref u0] h6 _
  obtain ⟨⟨fs9, f9⟩, hq⟩ := vob_e hq
  refine q_cV (Y := mX5_readFrom) (As := [.ref x6]) (st := [.ref u0]) (b := x2) (ci := 7) vc_X5_readFrom dX12_query_9 ml_RX12_94 rfl f9 rfl (Nat.le_of_ble_eq_true rfl) rfl (Nat.le_of_ble_eq_true rfl) hq (fun v h1 hq1 => ?_) (fun E h1 hq1 => ?_)
  rotate_left
  ·
    rcases hq1 with hq1 | ⟨E1, e1, hq1⟩
    · obtain ⟨_, z, _⟩ := hq1; exact nomatch z
    · obtain rfl := Sum.inr.inj e1; exact q_xout (fun z hz => nomatch hz) hq1
  rcases hq1 with hq1 | ⟨E1, e1, hq1⟩
  rotate_left
  · exact nomatch e1
  obtain ⟨x9, hv, hq⟩ := hq1
  obtain rfl := Sum.inl.inj hv
  clear hv
  obtain ⟨h9, eh9⟩ : ∃ z, z = h1 := ⟨_, rfl⟩
  rw [← eh9] at hq ⊢
  clear eh9
  show mv_rq l G mX12_query (d + 1) 12 [some (.ref u0)] [.int x9, .ref u0] h9 _
  obtain ⟨fs12, h12, f12, b12, l12, e12, hq⟩ := vpu_e hq
  refine q_putf (k := 9) (T := TX12) (C0 := RX12) (N := 10) (ci := 14) (ty := .int) tyX12 tyX12_ok nmX12 dX12_query_12 fl_RX12_61 rfl uin_RX12 (by decide) rfl rfl (by decide +kernel) rfl rfl b12 f12 l12 ?_
  rw [← e12]
  show mv_rq l G mX12_query (d + 1) 15 [some (.ref u0)] [] h12 _
  refine q_aload_n dX12_query_15 rfl ?_
  obtain ⟨fs16, x16, f16, g16, hq⟩ := vgi_e hq
  refine q_getf (k := 9) (T := TX12) (C0 := RX12) (N := 10) (ci := 14) dX12_query_16 fl_RX12_61 rfl uin_RX12 (by decide) rfl f16 g16 ?_
  refine q_iconst (v := (-1)) dX12_query_19 (by decide) ?_
  refine q_icmp_eq (tgt := 33) dX12_query_20 (by decide) (fun c20 => ?_) (fun c20 => ?_)
  ·
    have hq := vif_t hq c20
    refine q_aload_n dX12_query_33 rfl ?_
    refine q_aload_n dX12_query_34 rfl ?_
    obtain ⟨fs35, x35, f35, g35, hq⟩ := vgb_e hq
    refine q_getf (k := 2) (T := TX12) (C0 := RX12) (N := 10) (ci := 14) dX12_query_35 fl_RX12_26 rfl uin_RX12 (by decide) rfl f35 g35 ?_
    obtain ⟨fs38, x38, f38, g38, hq⟩ := vgr_e hq
    refine q_getf (k := 1) (T := TX5) (C0 := RX5) (N := 2) (ci := 7) dX12_query_38 fl_RX12_100 rfl uin_RX5 (by decide) rfl f38 g38 ?_
    obtain ⟨fs41, h41, f41, b41, l41, e41, hq⟩ := vpu_e hq
    refine q_putf (k := 8) (T := TX12) (C0 := RX12) (N := 10) (ci := 14) (ty := (.object "TreePaths$Path")) tyX12 tyX12_ok nmX12 dX12_query_41 fl_RX12_57 rfl uin_RX12 (by decide) rfl rfl (by decide +kernel) va_rf_nar va_rf_fit b41 f41 l41 ?_
    rw [← e41]
    show mv_rq l G mX12_query (d + 1) 44 [some (.ref u0)] [] h41 _
    refine q_aload_n dX12_query_44 rfl ?_
    obtain ⟨fs45, x45, f45, g45, hq⟩ := vgr_e hq
    refine q_getf (k := 8) (T := TX12) (C0 := RX12) (N := 10) (ci := 14) dX12_query_45 fl_RX12_57 rfl uin_RX12 (by decide) rfl f45 g45 ?_
    obtain ⟨a48, ea48, hz⟩ := vnn_e hq
    clear hq
    subst ea48
    have hq := hz
    clear hz
    show mv_rq l G mX12_query (d + 1) 48 [some (.ref u0)] [.ref a48] h41 _
    obtain ⟨fs48, x48, f48, g48, hq⟩ := vgi_e hq
    refine q_getf (k := 3) (T := TX4) (C0 := RX4) (N := 5) (ci := 6) dX12_query_48 fl_RX12_101 rfl uin_RX4 (by decide) rfl f48 g48 ?_
    exact q_iret (ty := .int) dX12_query_51 rfl rfl hq
  ·
    have hq := vif_f hq c20
    exact q_throw (names := mv_exn) hX.1 (by decide +kernel) (by decide +kernel) cl_RX12_81 ini_IllegalArgumentException (hX.2.2.2.2.2.1).choose_spec tx_RX12_85 hX.2.1 hX.2.2.1 rfl rfl dX12_query_23 dX12_query_26 dX12_query_27 dX12_query_29 dX12_query_32 (by show 2 + 3 < _; omega) (Nat.le_of_ble_eq_true rfl) hq
def w_X12_place (l : Launch) (G : mv_G) (d : Nat) (u0 : Nat) (h : mv_H) (Q : mv_O → mv_H → Prop) : Prop :=
  vgi h u0 14 9 fun x1 =>
  Q (.inl (some (.int x1))) h
theorem v_X12_place {l : Launch} {G : mv_G} {d : Nat} {u0 : Nat} {h : mv_H} {Q : mv_O → mv_H → Prop} (hG : mv_ok G) (hq : w_X12_place l G d u0 h Q) : mv_rq l G mX12_place d 0 (mv_in [.ref u0] 1) [] h Q := by
  unfold w_X12_place at hq
  show mv_rq l G mX12_place d 0 [some (.ref u0)] [] h _
  refine q_aload_n dX12_place_0 rfl ?_
  obtain ⟨fs1, x1, f1, g1, hq⟩ := vgi_e hq
  refine q_getf (k := 9) (T := TX12) (C0 := RX12) (N := 10) (ci := 14) dX12_place_1 fl_RX12_61 rfl uin_RX12 (by decide) rfl f1 g1 ?_
  exact q_iret (ty := .int) dX12_place_4 rfl rfl hq
def w_X12_find (l : Launch) (G : mv_G) (d : Nat) (u0 : Nat) (h : mv_H) (Q : mv_O → mv_H → Prop) : Prop :=
  vgb h u0 14 6 fun x1 =>
  vgi h x1 3 3 fun x4 =>
  vif (x4 = 0) (
    mv_rq l G mX12_find (d + 1) 17 [none] [] h Q) (
    vgr h u0 14 8 fun x11 =>
    vnl x11 (
      mv_rq l G mX12_find (d + 1) 17 [none] [] h Q) (fun a14 =>
      vgb h u0 14 4 fun x28 =>
      vob h x28 8 (
      mv_rq l G mX6_clear d 0 (mv_in [.ref x28] 1) [] h (vU (fun E h1 => Q (.inr E) h1) (fun h31 =>
      vgb h31 u0 14 4 fun x35 =>
      vgb h31 u0 14 3 fun x39 =>
      vgb h31 u0 14 6 fun x43 =>
      vgr h31 u0 14 8 fun x47 =>
      vob h31 x39 5 (
      mv_rq l G mX3_run d 0 (mv_in [.ref x39, .ref x43, va_rf x47] 3) [] h31 (vB (fun E h1 => Q (.inr E) h1) (fun x50 h50 =>
      vob h50 x35 8 (
      mv_rq l G mX6_addAll d 0 (mv_in [.ref x35, .ref x50] 3) [] h50 (vU (fun E h1 => Q (.inr E) h1) (fun h53 =>
      vgb h53 u0 14 4 fun x57 =>
      vgi h53 x57 8 1 fun x60 =>
      Q (.inl (some (.int x60))) h53)))))))))))
theorem v_X12_find {l : Launch} {G : mv_G} {d : Nat} {u0 : Nat} {h : mv_H} {Q : mv_O → mv_H → Prop} (hG : mv_ok G) (hX : mv_okX l G) (hd : 6 ≤ d) (hq : w_X12_find l G d u0 h Q) : mv_rq l G mX12_find (d + 1) 0 (mv_in [.ref u0] 1) [] h Q := by
  unfold w_X12_find at hq
  show mv_rq l G mX12_find (d + 1) 0 [some (.ref u0)] [] h _
  refine q_aload_n dX12_find_0 rfl ?_
  obtain ⟨fs1, x1, f1, g1, hq⟩ := vgb_e hq
  refine q_getf (k := 6) (T := TX12) (C0 := RX12) (N := 10) (ci := 14) dX12_find_1 fl_RX12_50 rfl uin_RX12 (by decide) rfl f1 g1 ?_
  obtain ⟨fs4, x4, f4, g4, hq⟩ := vgi_e hq
  refine q_getf (k := 3) (T := TX1) (C0 := RX1) (N := 4) (ci := 3) dX12_find_4 fl_RX12_91 rfl uin_RX1 (by decide) rfl f4 g4 ?_
  refine q_if_eq (tgt := 17) dX12_find_7 (by decide) (fun c7 => ?_) (fun c7 => ?_)
  ·
    have hq := vif_t hq c7
    exact mv_weak (A := [none]) (by repeat' constructor) hq
  ·
    have hq := vif_f hq c7
    refine q_aload_n dX12_find_10 rfl ?_
    obtain ⟨fs11, x11, f11, g11, hq⟩ := vgr_e hq
    refine q_getf (k := 8) (T := TX12) (C0 := RX12) (N := 10) (ci := 14) dX12_find_11 fl_RX12_57 rfl uin_RX12 (by decide) rfl f11 g11 ?_
    refine q_ifnonnullV (tgt := 27) dX12_find_14 (by decide) (fun c14 => ?_) (fun a14 c14 => ?_)
    ·
      have hz := vnl_n hq c14
      clear hq
      subst c14
      have hq := hz
      clear hz
      show mv_rq l G mX12_find (d + 1) 17 [some (.ref u0)] [] h _
      exact mv_weak (A := [none]) (by repeat' constructor) hq
    ·
      have hz := vnl_s hq c14
      clear hq
      subst c14
      have hq := hz
      clear hz
      show mv_rq l G mX12_find (d + 1) 27 [some (.ref u0)] [] h _
      refine q_aload_n dX12_find_27 rfl ?_
      obtain ⟨fs28, x28, f28, g28, hq⟩ := vgb_e hq
      refine q_getf (k := 4) (T := TX12) (C0 := RX12) (N := 10) (ci := 14) dX12_find_28 fl_RX12_40 rfl uin_RX12 (by decide) rfl f28 g28 ?_
      obtain ⟨⟨fs31, f31⟩, hq⟩ := vob_e hq
      refine q_cV (Y := mX6_clear) (As := []) (st := []) (b := x28) (ci := 8) vc_X6_clear dX12_find_31 ml_RX12_88 rfl f31 rfl (Nat.le_of_ble_eq_true rfl) rfl (Nat.le_of_ble_eq_true rfl) hq (fun v h1 hq1 => ?_) (fun E h1 hq1 => ?_)
      rotate_left
      ·
        rcases hq1 with hq1 | ⟨E1, e1, hq1⟩
        · exact nomatch hq1.1
        · obtain rfl := Sum.inr.inj e1; exact q_xout (fun z hz => nomatch hz) hq1
      rcases hq1 with hq1 | ⟨E1, e1, hq1⟩
      rotate_left
      · exact nomatch e1
      obtain ⟨hv, hq⟩ := hq1
      obtain rfl := Sum.inl.inj hv
      clear hv
      obtain ⟨h31, eh31⟩ : ∃ z, z = h1 := ⟨_, rfl⟩
      rw [← eh31] at hq ⊢
      clear eh31
      show mv_rq l G mX12_find (d + 1) 34 [some (.ref u0)] [] h31 _
      refine q_aload_n dX12_find_34 rfl ?_
      obtain ⟨fs35, x35, f35, g35, hq⟩ := vgb_e hq
      refine q_getf (k := 4) (T := TX12) (C0 := RX12) (N := 10) (ci := 14) dX12_find_35 fl_RX12_40 rfl uin_RX12 (by decide) rfl f35 g35 ?_
      refine q_aload_n dX12_find_38 rfl ?_
      obtain ⟨fs39, x39, f39, g39, hq⟩ := vgb_e hq
      refine q_getf (k := 3) (T := TX12) (C0 := RX12) (N := 10) (ci := 14) dX12_find_39 fl_RX12_33 rfl uin_RX12 (by decide) rfl f39 g39 ?_
      refine q_aload_n dX12_find_42 rfl ?_
      obtain ⟨fs43, x43, f43, g43, hq⟩ := vgb_e hq
      refine q_getf (k := 6) (T := TX12) (C0 := RX12) (N := 10) (ci := 14) dX12_find_43 fl_RX12_50 rfl uin_RX12 (by decide) rfl f43 g43 ?_
      refine q_aload_n dX12_find_46 rfl ?_
      obtain ⟨fs47, x47, f47, g47, hq⟩ := vgr_e hq
      refine q_getf (k := 8) (T := TX12) (C0 := RX12) (N := 10) (ci := 14) dX12_find_47 fl_RX12_57 rfl uin_RX12 (by decide) rfl f47 g47 ?_
      obtain ⟨⟨fs50, f50⟩, hq⟩ := vob_e hq
      refine q_cV (Y := mX3_run) (As := [.ref x43, va_rf x47]) (st := [.ref x35]) (b := x39) (ci := 5) vc_X3_run dX12_find_50 ml_RX12_109 rfl f50 rfl (by cases x47 <;> exact (Nat.le_of_ble_eq_true rfl)) rfl (by cases x47 <;> exact (Nat.le_of_ble_eq_true rfl)) hq (fun v h1 hq1 => ?_) (fun E h1 hq1 => ?_)
      rotate_left
      ·
        rcases hq1 with hq1 | ⟨E1, e1, hq1⟩
        · obtain ⟨_, z, _⟩ := hq1; exact nomatch z
        · obtain rfl := Sum.inr.inj e1; exact q_xout (fun z hz => nomatch hz) hq1
      rcases hq1 with hq1 | ⟨E1, e1, hq1⟩
      rotate_left
      · exact nomatch e1
      obtain ⟨x50, hv, hq⟩ := hq1
      obtain rfl := Sum.inl.inj hv
      clear hv
      obtain ⟨h50, eh50⟩ : ∃ z, z = h1 := ⟨_, rfl⟩
      rw [← eh50] at hq ⊢
      clear eh50
      show mv_rq l G mX12_find (d + 1) 53 [some (.ref u0)] [.ref x50, .ref x35] h50 _
      obtain ⟨⟨fs53, f53⟩, hq⟩ := vob_e hq
      refine q_cV (Y := mX6_addAll) (As := [.ref x50]) (st := []) (b := x35) (ci := 8) vc_X6_addAll dX12_find_53 ml_RX12_113 rfl f53 rfl (Nat.le_of_ble_eq_true rfl) rfl (Nat.le_of_ble_eq_true rfl) hq (fun v h1 hq1 => ?_) (fun E h1 hq1 => ?_)
      rotate_left
      ·
        rcases hq1 with hq1 | ⟨E1, e1, hq1⟩
        · exact nomatch hq1.1
        · obtain rfl := Sum.inr.inj e1; exact q_xout (fun z hz => nomatch hz) hq1
      rcases hq1 with hq1 | ⟨E1, e1, hq1⟩
      rotate_left
      · exact nomatch e1
      obtain ⟨hv, hq⟩ := hq1
      obtain rfl := Sum.inl.inj hv
      clear hv
      obtain ⟨h53, eh53⟩ : ∃ z, z = h1 := ⟨_, rfl⟩
      rw [← eh53] at hq ⊢
      clear eh53
      show mv_rq l G mX12_find (d + 1) 56 [some (.ref u0)] [] h53 _
      refine q_aload_n dX12_find_56 rfl ?_
      obtain ⟨fs57, x57, f57, g57, hq⟩ := vgb_e hq
      refine q_getf (k := 4) (T := TX12) (C0 := RX12) (N := 10) (ci := 14) dX12_find_57 fl_RX12_40 rfl uin_RX12 (by decide) rfl f57 g57 ?_
      obtain ⟨fs60, x60, f60, g60, hq⟩ := vgi_e hq
      refine q_getf (k := 1) (T := TX6) (C0 := RX6) (N := 2) (ci := 8) dX12_find_60 fl_RX12_117 rfl uin_RX6 (by decide) rfl f60 g60 ?_
      exact q_iret (ty := .int) dX12_find_63 rfl rfl hq
def w_X12_find_17 (l : Launch) (G : mv_G) (d : Nat) (h : mv_H) (Q : mv_O → mv_H → Prop) : Prop :=
  Q (.inr ("java/lang/IllegalStateException", h.1)) (thr h)
theorem v_X12_find_17 {l : Launch} {G : mv_G} {d : Nat} {h : mv_H} {Q : mv_O → mv_H → Prop} (hG : mv_ok G) (hX : mv_okX l G) (hd : 6 ≤ d) (hq : w_X12_find_17 l G d h Q) : mv_rq l G mX12_find (d + 1) 17 [none] [] h Q := by
  unfold w_X12_find_17 at hq
  exact q_throw (names := mv_exn) hX.1 (by decide +kernel) (by decide +kernel) cl_RX12_104 ini_IllegalStateException (hX.2.2.2.2.2.2.1).choose_spec tx_RX12_108 hX.2.1 hX.2.2.1 rfl rfl dX12_find_17 dX12_find_20 dX12_find_21 dX12_find_23 dX12_find_26 (by show 2 + 3 < _; omega) (Nat.le_of_ble_eq_true rfl) hq
def w_X12_found (l : Launch) (G : mv_G) (d : Nat) (u0 : Nat) (u1 : Int32) (h : mv_H) (Q : mv_O → mv_H → Prop) : Prop :=
  vif (u1 < 0) (
    Q (.inl (some (.int (-1)))) h) (
    vgb h u0 14 4 fun x6 =>
    vgi h x6 8 1 fun x9 =>
    vif (x9 ≤ u1) (
      Q (.inl (some (.int (-1)))) h) (
      vgb h u0 14 4 fun x16 =>
      vgb h x16 8 0 fun x19 =>
      vai G h x19 1 u1 fun x23 =>
      Q (.inl (some (.int x23))) h))
theorem v_X12_found {l : Launch} {G : mv_G} {d : Nat} {u0 : Nat} {u1 : Int32} {h : mv_H} {Q : mv_O → mv_H → Prop} (hG : mv_ok G) (hq : w_X12_found l G d u0 u1 h Q) : mv_rq l G mX12_found d 0 (mv_in [.ref u0, .int u1] 2) [] h Q := by
  unfold w_X12_found at hq
  show mv_rq l G mX12_found d 0 [some (.ref u0), some (.int u1)] [] h _
  refine q_iload_n dX12_found_0 rfl ?_
  refine q_if_lt (tgt := 27) dX12_found_1 (by decide) (fun c1 => ?_) (fun c1 => ?_)
  ·
    have hq := vif_t hq c1
    refine q_iconst (v := (-1)) dX12_found_27 (by decide) ?_
    exact q_iret (ty := .int) dX12_found_28 rfl rfl hq
  ·
    have hq := vif_f hq c1
    refine q_iload_n dX12_found_4 rfl ?_
    refine q_aload_n dX12_found_5 rfl ?_
    obtain ⟨fs6, x6, f6, g6, hq⟩ := vgb_e hq
    refine q_getf (k := 4) (T := TX12) (C0 := RX12) (N := 10) (ci := 14) dX12_found_6 fl_RX12_40 rfl uin_RX12 (by decide) rfl f6 g6 ?_
    obtain ⟨fs9, x9, f9, g9, hq⟩ := vgi_e hq
    refine q_getf (k := 1) (T := TX6) (C0 := RX6) (N := 2) (ci := 8) dX12_found_9 fl_RX12_117 rfl uin_RX6 (by decide) rfl f9 g9 ?_
    refine q_icmp_ge (tgt := 27) dX12_found_12 (by decide) (fun c12 => ?_) (fun c12 => ?_)
    ·
      have hq := vif_t hq c12
      refine q_iconst (v := (-1)) dX12_found_27 (by decide) ?_
      exact q_iret (ty := .int) dX12_found_28 rfl rfl hq
    ·
      have hq := vif_f hq c12
      refine q_aload_n dX12_found_15 rfl ?_
      obtain ⟨fs16, x16, f16, g16, hq⟩ := vgb_e hq
      refine q_getf (k := 4) (T := TX12) (C0 := RX12) (N := 10) (ci := 14) dX12_found_16 fl_RX12_40 rfl uin_RX12 (by decide) rfl f16 g16 ?_
      obtain ⟨fs19, x19, f19, g19, hq⟩ := vgb_e hq
      refine q_getf (k := 0) (T := TX6) (C0 := RX6) (N := 2) (ci := 8) dX12_found_19 fl_RX12_118 rfl uin_RX6 (by decide) rfl f19 g19 ?_
      refine q_iload_n dX12_found_22 rfl ?_
      obtain ⟨n23, f23, x23, g23, i23, e23, hq⟩ := vai_e hq
      refine q_iald (t0 := 1) dX12_found_23 (mv_tI hG) g23 i23 ?_
      rw [← e23]
      show mv_rq l G mX12_found d 24 [some (.ref u0), some (.int u1)] [.int x23] h _
      refine q_goto (tgt := 28) dX12_found_24 (by decide) ?_
      exact q_iret (ty := .int) dX12_found_28 rfl rfl hq
def w_X12_kind (l : Launch) (G : mv_G) (d : Nat) (u0 : Nat) (u1 : Int32) (h : mv_H) (Q : mv_O → mv_H → Prop) : Prop :=
  vgb h u0 14 6 fun x1 =>
  vob h x1 3 (
  mv_rq l G mX1_has d 0 (mv_in [.ref x1, .int u1] 2) [] h (vI (fun E h1 => Q (.inr E) h1) (fun x5 h5 =>
  vif (x5 = 0) (
    Q (.inl (some (.int (-1)))) h5) (
    vgb h5 u0 14 6 fun x12 =>
    vgb h5 x12 3 0 fun x15 =>
    vab G h5 x15 4 u1 fun x19 =>
    vgi h5 x19 13 0 fun x20 =>
    Q (.inl (some (.int x20))) h5))))
theorem v_X12_kind {l : Launch} {G : mv_G} {d : Nat} {u0 : Nat} {u1 : Int32} {h : mv_H} {Q : mv_O → mv_H → Prop} (hG : mv_ok G) (hq : w_X12_kind l G d u0 u1 h Q) : mv_rq l G mX12_kind (d + 1) 0 (mv_in [.ref u0, .int u1] 2) [] h Q := by
  unfold w_X12_kind at hq
  show mv_rq l G mX12_kind (d + 1) 0 [some (.ref u0), some (.int u1)] [] h _
  refine q_aload_n dX12_kind_0 rfl ?_
  obtain ⟨fs1, x1, f1, g1, hq⟩ := vgb_e hq
  refine q_getf (k := 6) (T := TX12) (C0 := RX12) (N := 10) (ci := 14) dX12_kind_1 fl_RX12_50 rfl uin_RX12 (by decide) rfl f1 g1 ?_
  refine q_iload_n dX12_kind_4 rfl ?_
  obtain ⟨⟨fs5, f5⟩, hq⟩ := vob_e hq
  refine q_cV (Y := mX1_has) (As := [.int u1]) (st := []) (b := x1) (ci := 3) vc_X1_has dX12_kind_5 ml_RX12_122 rfl f5 rfl (Nat.le_of_ble_eq_true rfl) rfl (Nat.le_of_ble_eq_true rfl) hq (fun v h1 hq1 => ?_) (fun E h1 hq1 => ?_)
  rotate_left
  ·
    rcases hq1 with hq1 | ⟨E1, e1, hq1⟩
    · obtain ⟨_, z, _⟩ := hq1; exact nomatch z
    · obtain rfl := Sum.inr.inj e1; exact q_xout (fun z hz => nomatch hz) hq1
  rcases hq1 with hq1 | ⟨E1, e1, hq1⟩
  rotate_left
  · exact nomatch e1
  obtain ⟨x5, hv, hq⟩ := hq1
  obtain rfl := Sum.inl.inj hv
  clear hv
  obtain ⟨h5, eh5⟩ : ∃ z, z = h1 := ⟨_, rfl⟩
  rw [← eh5] at hq ⊢
  clear eh5
  show mv_rq l G mX12_kind (d + 1) 8 [some (.ref u0), some (.int u1)] [.int x5] h5 _
  refine q_if_eq (tgt := 26) dX12_kind_8 (by decide) (fun c8 => ?_) (fun c8 => ?_)
  ·
    have hq := vif_t hq c8
    refine q_iconst (v := (-1)) dX12_kind_26 (by decide) ?_
    exact q_iret (ty := .int) dX12_kind_27 rfl rfl hq
  ·
    have hq := vif_f hq c8
    refine q_aload_n dX12_kind_11 rfl ?_
    obtain ⟨fs12, x12, f12, g12, hq⟩ := vgb_e hq
    refine q_getf (k := 6) (T := TX12) (C0 := RX12) (N := 10) (ci := 14) dX12_kind_12 fl_RX12_50 rfl uin_RX12 (by decide) rfl f12 g12 ?_
    obtain ⟨fs15, x15, f15, g15, hq⟩ := vgb_e hq
    refine q_getf (k := 0) (T := TX1) (C0 := RX1) (N := 4) (ci := 3) dX12_kind_15 fl_RX12_126 rfl uin_RX1 (by decide) rfl f15 g15 ?_
    refine q_iload_n dX12_kind_18 rfl ?_
    obtain ⟨n19, f19, x19, g19, i19, e19, hq⟩ := vab_e hq
    refine q_aald (t0 := 4) dX12_kind_19 (mv_ty hG (t := 4) rfl) g19 i19 ?_
    rw [e19]
    show mv_rq l G mX12_kind (d + 1) 20 [some (.ref u0), some (.int u1)] [.ref x19] h5 _
    obtain ⟨fs20, x20, f20, g20, hq⟩ := vgi_e hq
    refine q_getf (k := 0) (T := TX11) (C0 := RX11) (N := 10) (ci := 13) dX12_kind_20 fl_RX12_129 rfl uin_RX11 (by decide) rfl f20 g20 ?_
    refine q_goto (tgt := 27) dX12_kind_23 (by decide) ?_
    exact q_iret (ty := .int) dX12_kind_27 rfl rfl hq
def w_X12_size (l : Launch) (G : mv_G) (d : Nat) (u0 : Nat) (u1 : Int32) (h : mv_H) (Q : mv_O → mv_H → Prop) : Prop :=
  vgb h u0 14 6 fun x1 =>
  vob h x1 3 (
  mv_rq l G mX1_has d 0 (mv_in [.ref x1, .int u1] 2) [] h (vI (fun E h1 => Q (.inr E) h1) (fun x5 h5 =>
  vif (x5 = 0) (
    Q (.inl (some (.int 0))) h5) (
    vgb h5 u0 14 6 fun x12 =>
    vgb h5 x12 3 0 fun x15 =>
    vab G h5 x15 4 u1 fun x19 =>
    vgi h5 x19 13 1 fun x20 =>
    Q (.inl (some (.int x20))) h5))))
theorem v_X12_size {l : Launch} {G : mv_G} {d : Nat} {u0 : Nat} {u1 : Int32} {h : mv_H} {Q : mv_O → mv_H → Prop} (hG : mv_ok G) (hq : w_X12_size l G d u0 u1 h Q) : mv_rq l G mX12_size (d + 1) 0 (mv_in [.ref u0, .int u1] 2) [] h Q := by
  unfold w_X12_size at hq
  show mv_rq l G mX12_size (d + 1) 0 [some (.ref u0), some (.int u1)] [] h _
  refine q_aload_n dX12_size_0 rfl ?_
  obtain ⟨fs1, x1, f1, g1, hq⟩ := vgb_e hq
  refine q_getf (k := 6) (T := TX12) (C0 := RX12) (N := 10) (ci := 14) dX12_size_1 fl_RX12_50 rfl uin_RX12 (by decide) rfl f1 g1 ?_
  refine q_iload_n dX12_size_4 rfl ?_
  obtain ⟨⟨fs5, f5⟩, hq⟩ := vob_e hq
  refine q_cV (Y := mX1_has) (As := [.int u1]) (st := []) (b := x1) (ci := 3) vc_X1_has dX12_size_5 ml_RX12_122 rfl f5 rfl (Nat.le_of_ble_eq_true rfl) rfl (Nat.le_of_ble_eq_true rfl) hq (fun v h1 hq1 => ?_) (fun E h1 hq1 => ?_)
  rotate_left
  ·
    rcases hq1 with hq1 | ⟨E1, e1, hq1⟩
    · obtain ⟨_, z, _⟩ := hq1; exact nomatch z
    · obtain rfl := Sum.inr.inj e1; exact q_xout (fun z hz => nomatch hz) hq1
  rcases hq1 with hq1 | ⟨E1, e1, hq1⟩
  rotate_left
  · exact nomatch e1
  obtain ⟨x5, hv, hq⟩ := hq1
  obtain rfl := Sum.inl.inj hv
  clear hv
  obtain ⟨h5, eh5⟩ : ∃ z, z = h1 := ⟨_, rfl⟩
  rw [← eh5] at hq ⊢
  clear eh5
  show mv_rq l G mX12_size (d + 1) 8 [some (.ref u0), some (.int u1)] [.int x5] h5 _
  refine q_if_eq (tgt := 26) dX12_size_8 (by decide) (fun c8 => ?_) (fun c8 => ?_)
  ·
    have hq := vif_t hq c8
    refine q_iconst (v := 0) dX12_size_26 (by decide) ?_
    exact q_iret (ty := .int) dX12_size_27 rfl rfl hq
  ·
    have hq := vif_f hq c8
    refine q_aload_n dX12_size_11 rfl ?_
    obtain ⟨fs12, x12, f12, g12, hq⟩ := vgb_e hq
    refine q_getf (k := 6) (T := TX12) (C0 := RX12) (N := 10) (ci := 14) dX12_size_12 fl_RX12_50 rfl uin_RX12 (by decide) rfl f12 g12 ?_
    obtain ⟨fs15, x15, f15, g15, hq⟩ := vgb_e hq
    refine q_getf (k := 0) (T := TX1) (C0 := RX1) (N := 4) (ci := 3) dX12_size_15 fl_RX12_126 rfl uin_RX1 (by decide) rfl f15 g15 ?_
    refine q_iload_n dX12_size_18 rfl ?_
    obtain ⟨n19, f19, x19, g19, i19, e19, hq⟩ := vab_e hq
    refine q_aald (t0 := 4) dX12_size_19 (mv_ty hG (t := 4) rfl) g19 i19 ?_
    rw [e19]
    show mv_rq l G mX12_size (d + 1) 20 [some (.ref u0), some (.int u1)] [.ref x19] h5 _
    obtain ⟨fs20, x20, f20, g20, hq⟩ := vgi_e hq
    refine q_getf (k := 1) (T := TX11) (C0 := RX11) (N := 10) (ci := 13) dX12_size_20 fl_RX12_134 rfl uin_RX11 (by decide) rfl f20 g20 ?_
    refine q_goto (tgt := 27) dX12_size_23 (by decide) ?_
    exact q_iret (ty := .int) dX12_size_27 rfl rfl hq
def w_X12_character (l : Launch) (G : mv_G) (d : Nat) (u0 : Nat) (u1 : Int32) (u2 : Int32) (h : mv_H) (Q : mv_O → mv_H → Prop) : Prop :=
  vob h u0 14 (
  mv_rq l G mX12_kind d 0 (mv_in [.ref u0, .int u1] 2) [] h (vI (fun E h1 => Q (.inr E) h1) (fun x2 h2 =>
  vif (x2 = 4) (
    vif (u2 < 0) (
      Q (.inl (some (.int 0))) h2) (
      vob h2 u0 14 (
      mv_rq l G mX12_size d 0 (mv_in [.ref u0, .int u1] 2) [] h2 (vI (fun E h1 => Q (.inr E) h1) (fun x16 h16 =>
      vif (u2 < x16) (
        vgb h16 u0 14 6 fun x25 =>
        vgb h16 x25 3 0 fun x28 =>
        vab G h16 x28 4 u1 fun x32 =>
        vgb h16 x32 13 2 fun x33 =>
        vob h16 x33 0 (
        mv_rq l G mJ0_charAt_5068e d 0 (mv_in [.ref x33, .int u2] 2) [] h16 (vI (fun E h1 => Q (.inr E) h1) (fun x37 h37 =>
        Q (.inl (some (.int x37))) h37)))) (
        Q (.inl (some (.int 0))) h16)))))) (
    Q (.inl (some (.int 0))) h2))))
theorem v_X12_character {l : Launch} {G : mv_G} {d : Nat} {u0 : Nat} {u1 : Int32} {u2 : Int32} {h : mv_H} {Q : mv_O → mv_H → Prop} (hG : mv_ok G) (hq : w_X12_character l G d u0 u1 u2 h Q) : mv_rq l G mX12_character (d + 1) 0 (mv_in [.ref u0, .int u1, .int u2] 3) [] h Q := by
  unfold w_X12_character at hq
  show mv_rq l G mX12_character (d + 1) 0 [some (.ref u0), some (.int u1), some (.int u2)] [] h _
  refine q_aload_n dX12_character_0 rfl ?_
  refine q_iload_n dX12_character_1 rfl ?_
  obtain ⟨⟨fs2, f2⟩, hq⟩ := vob_e hq
  refine q_cV (Y := mX12_kind) (As := [.int u1]) (st := []) (b := u0) (ci := 14) vc_X12_kind dX12_character_2 ml_RX12_137 rfl f2 rfl (Nat.le_of_ble_eq_true rfl) rfl (Nat.le_of_ble_eq_true rfl) hq (fun v h1 hq1 => ?_) (fun E h1 hq1 => ?_)
  rotate_left
  ·
    rcases hq1 with hq1 | ⟨E1, e1, hq1⟩
    · obtain ⟨_, z, _⟩ := hq1; exact nomatch z
    · obtain rfl := Sum.inr.inj e1; exact q_xout (fun z hz => nomatch hz) hq1
  rcases hq1 with hq1 | ⟨E1, e1, hq1⟩
  rotate_left
  · exact nomatch e1
  obtain ⟨x2, hv, hq⟩ := hq1
  obtain rfl := Sum.inl.inj hv
  clear hv
  obtain ⟨h2, eh2⟩ : ∃ z, z = h1 := ⟨_, rfl⟩
  rw [← eh2] at hq ⊢
  clear eh2
  show mv_rq l G mX12_character (d + 1) 5 [some (.ref u0), some (.int u1), some (.int u2)] [.int x2] h2 _
  refine q_iconst (v := 4) dX12_character_5 (by decide) ?_
  refine q_icmp_ne (tgt := 22) dX12_character_6 (by decide) (fun c6 => ?_) (fun c6 => ?_)
  ·
    have hq := vif_f hq c6
    refine q_iconst (v := 0) dX12_character_22 (by decide) ?_
    exact q_iret (ty := .int) dX12_character_23 rfl rfl hq
  ·
    have hq := vif_t hq c6
    refine q_iload_n dX12_character_9 rfl ?_
    refine q_if_lt (tgt := 22) dX12_character_10 (by decide) (fun c10 => ?_) (fun c10 => ?_)
    ·
      have hq := vif_t hq c10
      refine q_iconst (v := 0) dX12_character_22 (by decide) ?_
      exact q_iret (ty := .int) dX12_character_23 rfl rfl hq
    ·
      have hq := vif_f hq c10
      refine q_iload_n dX12_character_13 rfl ?_
      refine q_aload_n dX12_character_14 rfl ?_
      refine q_iload_n dX12_character_15 rfl ?_
      obtain ⟨⟨fs16, f16⟩, hq⟩ := vob_e hq
      refine q_cV (Y := mX12_size) (As := [.int u1]) (st := [.int u2]) (b := u0) (ci := 14) vc_X12_size dX12_character_16 ml_RX12_140 rfl f16 rfl (Nat.le_of_ble_eq_true rfl) rfl (Nat.le_of_ble_eq_true rfl) hq (fun v h1 hq1 => ?_) (fun E h1 hq1 => ?_)
      rotate_left
      ·
        rcases hq1 with hq1 | ⟨E1, e1, hq1⟩
        · obtain ⟨_, z, _⟩ := hq1; exact nomatch z
        · obtain rfl := Sum.inr.inj e1; exact q_xout (fun z hz => nomatch hz) hq1
      rcases hq1 with hq1 | ⟨E1, e1, hq1⟩
      rotate_left
      · exact nomatch e1
      obtain ⟨x16, hv, hq⟩ := hq1
      obtain rfl := Sum.inl.inj hv
      clear hv
      obtain ⟨h16, eh16⟩ : ∃ z, z = h1 := ⟨_, rfl⟩
      rw [← eh16] at hq ⊢
      clear eh16
      show mv_rq l G mX12_character (d + 1) 19 [some (.ref u0), some (.int u1), some (.int u2)] [.int x16, .int u2] h16 _
      refine q_icmp_lt (tgt := 24) dX12_character_19 (by decide) (fun c19 => ?_) (fun c19 => ?_)
      ·
        have hq := vif_t hq c19
        refine q_aload_n dX12_character_24 rfl ?_
        obtain ⟨fs25, x25, f25, g25, hq⟩ := vgb_e hq
        refine q_getf (k := 6) (T := TX12) (C0 := RX12) (N := 10) (ci := 14) dX12_character_25 fl_RX12_50 rfl uin_RX12 (by decide) rfl f25 g25 ?_
        obtain ⟨fs28, x28, f28, g28, hq⟩ := vgb_e hq
        refine q_getf (k := 0) (T := TX1) (C0 := RX1) (N := 4) (ci := 3) dX12_character_28 fl_RX12_126 rfl uin_RX1 (by decide) rfl f28 g28 ?_
        refine q_iload_n dX12_character_31 rfl ?_
        obtain ⟨n32, f32, x32, g32, i32, e32, hq⟩ := vab_e hq
        refine q_aald (t0 := 4) dX12_character_32 (mv_ty hG (t := 4) rfl) g32 i32 ?_
        rw [e32]
        show mv_rq l G mX12_character (d + 1) 33 [some (.ref u0), some (.int u1), some (.int u2)] [.ref x32] h16 _
        obtain ⟨fs33, x33, f33, g33, hq⟩ := vgb_e hq
        refine q_getf (k := 2) (T := TX11) (C0 := RX11) (N := 10) (ci := 13) dX12_character_33 fl_RX12_142 rfl uin_RX11 (by decide) rfl f33 g33 ?_
        refine q_iload_n dX12_character_36 rfl ?_
        obtain ⟨⟨fs37, f37⟩, hq⟩ := vob_e hq
        refine q_cV (Y := mJ0_charAt_5068e) (As := [.int u2]) (st := []) (b := x33) (ci := 0) vc_J0_charAt_5068e dX12_character_37 ml_RX12_146 rfl f37 rfl (Nat.le_of_ble_eq_true rfl) rfl (Nat.le_of_ble_eq_true rfl) hq (fun v h1 hq1 => ?_) (fun E h1 hq1 => ?_)
        rotate_left
        ·
          rcases hq1 with hq1 | ⟨E1, e1, hq1⟩
          · obtain ⟨_, z, _⟩ := hq1; exact nomatch z
          · obtain rfl := Sum.inr.inj e1; exact q_xout (fun z hz => nomatch hz) hq1
        rcases hq1 with hq1 | ⟨E1, e1, hq1⟩
        rotate_left
        · exact nomatch e1
        obtain ⟨x37, hv, hq⟩ := hq1
        obtain rfl := Sum.inl.inj hv
        clear hv
        obtain ⟨h37, eh37⟩ : ∃ z, z = h1 := ⟨_, rfl⟩
        rw [← eh37] at hq ⊢
        clear eh37
        show mv_rq l G mX12_character (d + 1) 40 [some (.ref u0), some (.int u1), some (.int u2)] [.int x37] h37 _
        exact q_iret (ty := .int) dX12_character_40 rfl rfl hq
      ·
        have hq := vif_f hq c19
        refine q_iconst (v := 0) dX12_character_22 (by decide) ?_
        exact q_iret (ty := .int) dX12_character_23 rfl rfl hq
def w_X12_outer (l : Launch) (G : mv_G) (d : Nat) (u0 : Nat) (u1 : Int32) (h : mv_H) (Q : mv_O → mv_H → Prop) : Prop :=
  vgb h u0 14 6 fun x1 =>
  vob h x1 3 (
  mv_rq l G mX1_has d 0 (mv_in [.ref x1, .int u1] 2) [] h (vI (fun E h1 => Q (.inr E) h1) (fun x5 h5 =>
  vif (x5 = 0) (
    Q (.inl (some (.int (-1)))) h5) (
    vgb h5 u0 14 6 fun x12 =>
    vgb h5 x12 3 0 fun x15 =>
    vab G h5 x15 4 u1 fun x19 =>
    vgi h5 x19 13 5 fun x20 =>
    Q (.inl (some (.int x20))) h5))))
theorem v_X12_outer {l : Launch} {G : mv_G} {d : Nat} {u0 : Nat} {u1 : Int32} {h : mv_H} {Q : mv_O → mv_H → Prop} (hG : mv_ok G) (hq : w_X12_outer l G d u0 u1 h Q) : mv_rq l G mX12_outer (d + 1) 0 (mv_in [.ref u0, .int u1] 2) [] h Q := by
  unfold w_X12_outer at hq
  show mv_rq l G mX12_outer (d + 1) 0 [some (.ref u0), some (.int u1)] [] h _
  refine q_aload_n dX12_outer_0 rfl ?_
  obtain ⟨fs1, x1, f1, g1, hq⟩ := vgb_e hq
  refine q_getf (k := 6) (T := TX12) (C0 := RX12) (N := 10) (ci := 14) dX12_outer_1 fl_RX12_50 rfl uin_RX12 (by decide) rfl f1 g1 ?_
  refine q_iload_n dX12_outer_4 rfl ?_
  obtain ⟨⟨fs5, f5⟩, hq⟩ := vob_e hq
  refine q_cV (Y := mX1_has) (As := [.int u1]) (st := []) (b := x1) (ci := 3) vc_X1_has dX12_outer_5 ml_RX12_122 rfl f5 rfl (Nat.le_of_ble_eq_true rfl) rfl (Nat.le_of_ble_eq_true rfl) hq (fun v h1 hq1 => ?_) (fun E h1 hq1 => ?_)
  rotate_left
  ·
    rcases hq1 with hq1 | ⟨E1, e1, hq1⟩
    · obtain ⟨_, z, _⟩ := hq1; exact nomatch z
    · obtain rfl := Sum.inr.inj e1; exact q_xout (fun z hz => nomatch hz) hq1
  rcases hq1 with hq1 | ⟨E1, e1, hq1⟩
  rotate_left
  · exact nomatch e1
  obtain ⟨x5, hv, hq⟩ := hq1
  obtain rfl := Sum.inl.inj hv
  clear hv
  obtain ⟨h5, eh5⟩ : ∃ z, z = h1 := ⟨_, rfl⟩
  rw [← eh5] at hq ⊢
  clear eh5
  show mv_rq l G mX12_outer (d + 1) 8 [some (.ref u0), some (.int u1)] [.int x5] h5 _
  refine q_if_eq (tgt := 26) dX12_outer_8 (by decide) (fun c8 => ?_) (fun c8 => ?_)
  ·
    have hq := vif_t hq c8
    refine q_iconst (v := (-1)) dX12_outer_26 (by decide) ?_
    exact q_iret (ty := .int) dX12_outer_27 rfl rfl hq
  ·
    have hq := vif_f hq c8
    refine q_aload_n dX12_outer_11 rfl ?_
    obtain ⟨fs12, x12, f12, g12, hq⟩ := vgb_e hq
    refine q_getf (k := 6) (T := TX12) (C0 := RX12) (N := 10) (ci := 14) dX12_outer_12 fl_RX12_50 rfl uin_RX12 (by decide) rfl f12 g12 ?_
    obtain ⟨fs15, x15, f15, g15, hq⟩ := vgb_e hq
    refine q_getf (k := 0) (T := TX1) (C0 := RX1) (N := 4) (ci := 3) dX12_outer_15 fl_RX12_126 rfl uin_RX1 (by decide) rfl f15 g15 ?_
    refine q_iload_n dX12_outer_18 rfl ?_
    obtain ⟨n19, f19, x19, g19, i19, e19, hq⟩ := vab_e hq
    refine q_aald (t0 := 4) dX12_outer_19 (mv_ty hG (t := 4) rfl) g19 i19 ?_
    rw [e19]
    show mv_rq l G mX12_outer (d + 1) 20 [some (.ref u0), some (.int u1)] [.ref x19] h5 _
    obtain ⟨fs20, x20, f20, g20, hq⟩ := vgi_e hq
    refine q_getf (k := 5) (T := TX11) (C0 := RX11) (N := 10) (ci := 13) dX12_outer_20 fl_RX12_152 rfl uin_RX11 (by decide) rfl f20 g20 ?_
    refine q_goto (tgt := 27) dX12_outer_23 (by decide) ?_
    exact q_iret (ty := .int) dX12_outer_27 rfl rfl hq
def w_X12_path (l : Launch) (G : mv_G) (d : Nat) (u0 : Nat) (u1 : Int32) (u2 : Int32) (h : mv_H) (Q : mv_O → mv_H → Prop) : Prop :=
  vgb h u0 14 6 fun x1 =>
  vob h x1 3 (
  mv_rq l G mX1_has d 0 (mv_in [.ref x1, .int u1] 2) [] h (vI (fun E h1 => Q (.inr E) h1) (fun x5 h5 =>
  vif (x5 = 0) (
    Q (.inl (some (.int 0))) h5) (
    vgb h5 u0 14 5 fun x14 =>
    vob h5 x14 1 (
    mv_rq l G mJ4_setLength_d00df d 0 (mv_in [.ref x14, .int 0] 2) [] h5 (vU (fun E h1 => Q (.inr E) h1) (fun h18 =>
    vgb h18 u0 14 6 fun x22 =>
    vgb h18 u0 14 5 fun x27 =>
    vob h18 x22 3 (
    mv_rq l G mX1_appendPath d 0 (mv_in [.ref x22, .int u1, .ref x27] 4) [] h18 (vU (fun E h1 => Q (.inr E) h1) (fun h30 =>
    vif (u2 < 0) (
      Q (.inl (some (.int 0))) h30) (
      vgb h30 u0 14 5 fun x39 =>
      vob h30 x39 1 (
      mv_rq l G mJ4_length_8abf5 d 0 (mv_in [.ref x39] 1) [] h30 (vI (fun E h1 => Q (.inr E) h1) (fun x42 h42 =>
      vif (x42 ≤ u2) (
        Q (.inl (some (.int 0))) h42) (
        vgb h42 u0 14 5 fun x49 =>
        vob h42 x49 1 (
        mv_rq l G mJ4_charAt_5068e d 0 (mv_in [.ref x49, .int u2] 2) [] h42 (vI (fun E h1 => Q (.inr E) h1) (fun x53 h53 =>
        Q (.inl (some (.int x53))) h53))))))))))))))))))
theorem v_X12_path {l : Launch} {G : mv_G} {d : Nat} {u0 : Nat} {u1 : Int32} {u2 : Int32} {h : mv_H} {Q : mv_O → mv_H → Prop} (hG : mv_ok G) (hq : w_X12_path l G d u0 u1 u2 h Q) : mv_rq l G mX12_path (d + 1) 0 (mv_in [.ref u0, .int u1, .int u2] 3) [] h Q := by
  unfold w_X12_path at hq
  show mv_rq l G mX12_path (d + 1) 0 [some (.ref u0), some (.int u1), some (.int u2)] [] h _
  refine q_aload_n dX12_path_0 rfl ?_
  obtain ⟨fs1, x1, f1, g1, hq⟩ := vgb_e hq
  refine q_getf (k := 6) (T := TX12) (C0 := RX12) (N := 10) (ci := 14) dX12_path_1 fl_RX12_50 rfl uin_RX12 (by decide) rfl f1 g1 ?_
  refine q_iload_n dX12_path_4 rfl ?_
  obtain ⟨⟨fs5, f5⟩, hq⟩ := vob_e hq
  refine q_cV (Y := mX1_has) (As := [.int u1]) (st := []) (b := x1) (ci := 3) vc_X1_has dX12_path_5 ml_RX12_122 rfl f5 rfl (Nat.le_of_ble_eq_true rfl) rfl (Nat.le_of_ble_eq_true rfl) hq (fun v h1 hq1 => ?_) (fun E h1 hq1 => ?_)
  rotate_left
  ·
    rcases hq1 with hq1 | ⟨E1, e1, hq1⟩
    · obtain ⟨_, z, _⟩ := hq1; exact nomatch z
    · obtain rfl := Sum.inr.inj e1; exact q_xout (fun z hz => nomatch hz) hq1
  rcases hq1 with hq1 | ⟨E1, e1, hq1⟩
  rotate_left
  · exact nomatch e1
  obtain ⟨x5, hv, hq⟩ := hq1
  obtain rfl := Sum.inl.inj hv
  clear hv
  obtain ⟨h5, eh5⟩ : ∃ z, z = h1 := ⟨_, rfl⟩
  rw [← eh5] at hq ⊢
  clear eh5
  show mv_rq l G mX12_path (d + 1) 8 [some (.ref u0), some (.int u1), some (.int u2)] [.int x5] h5 _
  refine q_if_ne (tgt := 13) dX12_path_8 (by decide) (fun c8 => ?_) (fun c8 => ?_)
  ·
    have hq := vif_f hq c8
    refine q_aload_n dX12_path_13 rfl ?_
    obtain ⟨fs14, x14, f14, g14, hq⟩ := vgb_e hq
    refine q_getf (k := 5) (T := TX12) (C0 := RX12) (N := 10) (ci := 14) dX12_path_14 fl_RX12_44 rfl uin_RX12 (by decide) rfl f14 g14 ?_
    refine q_iconst (v := 0) dX12_path_17 (by decide) ?_
    obtain ⟨⟨fs18, f18⟩, hq⟩ := vob_e hq
    refine q_cV (Y := mJ4_setLength_d00df) (As := [.int 0]) (st := []) (b := x14) (ci := 1) vc_J4_setLength_d00df dX12_path_18 ml_RX12_155 rfl f18 rfl (Nat.le_of_ble_eq_true rfl) rfl (Nat.le_of_ble_eq_true rfl) hq (fun v h1 hq1 => ?_) (fun E h1 hq1 => ?_)
    rotate_left
    ·
      rcases hq1 with hq1 | ⟨E1, e1, hq1⟩
      · exact nomatch hq1.1
      · obtain rfl := Sum.inr.inj e1; exact q_xout (fun z hz => nomatch hz) hq1
    rcases hq1 with hq1 | ⟨E1, e1, hq1⟩
    rotate_left
    · exact nomatch e1
    obtain ⟨hv, hq⟩ := hq1
    obtain rfl := Sum.inl.inj hv
    clear hv
    obtain ⟨h18, eh18⟩ : ∃ z, z = h1 := ⟨_, rfl⟩
    rw [← eh18] at hq ⊢
    clear eh18
    show mv_rq l G mX12_path (d + 1) 21 [some (.ref u0), some (.int u1), some (.int u2)] [] h18 _
    refine q_aload_n dX12_path_21 rfl ?_
    obtain ⟨fs22, x22, f22, g22, hq⟩ := vgb_e hq
    refine q_getf (k := 6) (T := TX12) (C0 := RX12) (N := 10) (ci := 14) dX12_path_22 fl_RX12_50 rfl uin_RX12 (by decide) rfl f22 g22 ?_
    refine q_iload_n dX12_path_25 rfl ?_
    refine q_aload_n dX12_path_26 rfl ?_
    obtain ⟨fs27, x27, f27, g27, hq⟩ := vgb_e hq
    refine q_getf (k := 5) (T := TX12) (C0 := RX12) (N := 10) (ci := 14) dX12_path_27 fl_RX12_44 rfl uin_RX12 (by decide) rfl f27 g27 ?_
    obtain ⟨⟨fs30, f30⟩, hq⟩ := vob_e hq
    refine q_cV (Y := mX1_appendPath) (As := [.int u1, .ref x27]) (st := []) (b := x22) (ci := 3) vc_X1_appendPath dX12_path_30 ml_RX12_159 rfl f30 rfl (Nat.le_of_ble_eq_true rfl) rfl (Nat.le_of_ble_eq_true rfl) hq (fun v h1 hq1 => ?_) (fun E h1 hq1 => ?_)
    rotate_left
    ·
      rcases hq1 with hq1 | ⟨E1, e1, hq1⟩
      · exact nomatch hq1.1
      · obtain rfl := Sum.inr.inj e1; exact q_xout (fun z hz => nomatch hz) hq1
    rcases hq1 with hq1 | ⟨E1, e1, hq1⟩
    rotate_left
    · exact nomatch e1
    obtain ⟨hv, hq⟩ := hq1
    obtain rfl := Sum.inl.inj hv
    clear hv
    obtain ⟨h30, eh30⟩ : ∃ z, z = h1 := ⟨_, rfl⟩
    rw [← eh30] at hq ⊢
    clear eh30
    show mv_rq l G mX12_path (d + 1) 33 [some (.ref u0), some (.int u1), some (.int u2)] [] h30 _
    refine q_iload_n dX12_path_33 rfl ?_
    refine q_if_lt (tgt := 59) dX12_path_34 (by decide) (fun c34 => ?_) (fun c34 => ?_)
    ·
      have hq := vif_t hq c34
      refine q_iconst (v := 0) dX12_path_59 (by decide) ?_
      exact q_iret (ty := .int) dX12_path_60 rfl rfl hq
    ·
      have hq := vif_f hq c34
      refine q_iload_n dX12_path_37 rfl ?_
      refine q_aload_n dX12_path_38 rfl ?_
      obtain ⟨fs39, x39, f39, g39, hq⟩ := vgb_e hq
      refine q_getf (k := 5) (T := TX12) (C0 := RX12) (N := 10) (ci := 14) dX12_path_39 fl_RX12_44 rfl uin_RX12 (by decide) rfl f39 g39 ?_
      obtain ⟨⟨fs42, f42⟩, hq⟩ := vob_e hq
      refine q_cV (Y := mJ4_length_8abf5) (As := []) (st := [.int u2]) (b := x39) (ci := 1) vc_J4_length_8abf5 dX12_path_42 ml_RX12_65 rfl f42 rfl (Nat.le_of_ble_eq_true rfl) rfl (Nat.le_of_ble_eq_true rfl) hq (fun v h1 hq1 => ?_) (fun E h1 hq1 => ?_)
      rotate_left
      ·
        rcases hq1 with hq1 | ⟨E1, e1, hq1⟩
        · obtain ⟨_, z, _⟩ := hq1; exact nomatch z
        · obtain rfl := Sum.inr.inj e1; exact q_xout (fun z hz => nomatch hz) hq1
      rcases hq1 with hq1 | ⟨E1, e1, hq1⟩
      rotate_left
      · exact nomatch e1
      obtain ⟨x42, hv, hq⟩ := hq1
      obtain rfl := Sum.inl.inj hv
      clear hv
      obtain ⟨h42, eh42⟩ : ∃ z, z = h1 := ⟨_, rfl⟩
      rw [← eh42] at hq ⊢
      clear eh42
      show mv_rq l G mX12_path (d + 1) 45 [some (.ref u0), some (.int u1), some (.int u2)] [.int x42, .int u2] h42 _
      refine q_icmp_ge (tgt := 59) dX12_path_45 (by decide) (fun c45 => ?_) (fun c45 => ?_)
      ·
        have hq := vif_t hq c45
        refine q_iconst (v := 0) dX12_path_59 (by decide) ?_
        exact q_iret (ty := .int) dX12_path_60 rfl rfl hq
      ·
        have hq := vif_f hq c45
        refine q_aload_n dX12_path_48 rfl ?_
        obtain ⟨fs49, x49, f49, g49, hq⟩ := vgb_e hq
        refine q_getf (k := 5) (T := TX12) (C0 := RX12) (N := 10) (ci := 14) dX12_path_49 fl_RX12_44 rfl uin_RX12 (by decide) rfl f49 g49 ?_
        refine q_iload_n dX12_path_52 rfl ?_
        obtain ⟨⟨fs53, f53⟩, hq⟩ := vob_e hq
        refine q_cV (Y := mJ4_charAt_5068e) (As := [.int u2]) (st := []) (b := x49) (ci := 1) vc_J4_charAt_5068e dX12_path_53 ml_RX12_163 rfl f53 rfl (Nat.le_of_ble_eq_true rfl) rfl (Nat.le_of_ble_eq_true rfl) hq (fun v h1 hq1 => ?_) (fun E h1 hq1 => ?_)
        rotate_left
        ·
          rcases hq1 with hq1 | ⟨E1, e1, hq1⟩
          · obtain ⟨_, z, _⟩ := hq1; exact nomatch z
          · obtain rfl := Sum.inr.inj e1; exact q_xout (fun z hz => nomatch hz) hq1
        rcases hq1 with hq1 | ⟨E1, e1, hq1⟩
        rotate_left
        · exact nomatch e1
        obtain ⟨x53, hv, hq⟩ := hq1
        obtain rfl := Sum.inl.inj hv
        clear hv
        obtain ⟨h53, eh53⟩ : ∃ z, z = h1 := ⟨_, rfl⟩
        rw [← eh53] at hq ⊢
        clear eh53
        show mv_rq l G mX12_path (d + 1) 56 [some (.ref u0), some (.int u1), some (.int u2)] [.int x53] h53 _
        refine q_goto (tgt := 60) dX12_path_56 (by decide) ?_
        exact q_iret (ty := .int) dX12_path_60 rfl rfl hq
  ·
    have hq := vif_t hq c8
    refine q_iconst (v := 0) dX12_path_11 (by decide) ?_
    exact q_iret (ty := .int) dX12_path_12 rfl rfl hq
def w_X12_text (l : Launch) (G : mv_G) (d : Nat) (u0 : Nat) (u1 : Int32) (u2 : Int32) (h : mv_H) (Q : mv_O → mv_H → Prop) : Prop :=
  vgb h u0 14 6 fun x1 =>
  vob h x1 3 (
  mv_rq l G mX1_has d 0 (mv_in [.ref x1, .int u1] 2) [] h (vI (fun E h1 => Q (.inr E) h1) (fun x5 h5 =>
  vif (x5 = 0) (
    Q (.inl (some (.int 0))) h5) (
    vif (u2 < 0) (
      Q (.inl (some (.int 0))) h5) (
      vgb h5 u0 14 6 fun x16 =>
      vob h5 x16 3 (
      mv_rq l G mX1_sourceCharacter d 0 (mv_in [.ref x16, .int u1, .int u2] 7) [] h5 (vI (fun E h1 => Q (.inr E) h1) (fun x21 h21 =>
      Q (.inl (some (.int x21))) h21))))))))
theorem v_X12_text {l : Launch} {G : mv_G} {d : Nat} {u0 : Nat} {u1 : Int32} {u2 : Int32} {h : mv_H} {Q : mv_O → mv_H → Prop} (hG : mv_ok G) (hq : w_X12_text l G d u0 u1 u2 h Q) : mv_rq l G mX12_text (d + 1) 0 (mv_in [.ref u0, .int u1, .int u2] 3) [] h Q := by
  unfold w_X12_text at hq
  show mv_rq l G mX12_text (d + 1) 0 [some (.ref u0), some (.int u1), some (.int u2)] [] h _
  refine q_aload_n dX12_text_0 rfl ?_
  obtain ⟨fs1, x1, f1, g1, hq⟩ := vgb_e hq
  refine q_getf (k := 6) (T := TX12) (C0 := RX12) (N := 10) (ci := 14) dX12_text_1 fl_RX12_50 rfl uin_RX12 (by decide) rfl f1 g1 ?_
  refine q_iload_n dX12_text_4 rfl ?_
  obtain ⟨⟨fs5, f5⟩, hq⟩ := vob_e hq
  refine q_cV (Y := mX1_has) (As := [.int u1]) (st := []) (b := x1) (ci := 3) vc_X1_has dX12_text_5 ml_RX12_122 rfl f5 rfl (Nat.le_of_ble_eq_true rfl) rfl (Nat.le_of_ble_eq_true rfl) hq (fun v h1 hq1 => ?_) (fun E h1 hq1 => ?_)
  rotate_left
  ·
    rcases hq1 with hq1 | ⟨E1, e1, hq1⟩
    · obtain ⟨_, z, _⟩ := hq1; exact nomatch z
    · obtain rfl := Sum.inr.inj e1; exact q_xout (fun z hz => nomatch hz) hq1
  rcases hq1 with hq1 | ⟨E1, e1, hq1⟩
  rotate_left
  · exact nomatch e1
  obtain ⟨x5, hv, hq⟩ := hq1
  obtain rfl := Sum.inl.inj hv
  clear hv
  obtain ⟨h5, eh5⟩ : ∃ z, z = h1 := ⟨_, rfl⟩
  rw [← eh5] at hq ⊢
  clear eh5
  show mv_rq l G mX12_text (d + 1) 8 [some (.ref u0), some (.int u1), some (.int u2)] [.int x5] h5 _
  refine q_if_eq (tgt := 27) dX12_text_8 (by decide) (fun c8 => ?_) (fun c8 => ?_)
  ·
    have hq := vif_t hq c8
    refine q_iconst (v := 0) dX12_text_27 (by decide) ?_
    exact q_iret (ty := .int) dX12_text_28 rfl rfl hq
  ·
    have hq := vif_f hq c8
    refine q_iload_n dX12_text_11 rfl ?_
    refine q_if_lt (tgt := 27) dX12_text_12 (by decide) (fun c12 => ?_) (fun c12 => ?_)
    ·
      have hq := vif_t hq c12
      refine q_iconst (v := 0) dX12_text_27 (by decide) ?_
      exact q_iret (ty := .int) dX12_text_28 rfl rfl hq
    ·
      have hq := vif_f hq c12
      refine q_aload_n dX12_text_15 rfl ?_
      obtain ⟨fs16, x16, f16, g16, hq⟩ := vgb_e hq
      refine q_getf (k := 6) (T := TX12) (C0 := RX12) (N := 10) (ci := 14) dX12_text_16 fl_RX12_50 rfl uin_RX12 (by decide) rfl f16 g16 ?_
      refine q_iload_n dX12_text_19 rfl ?_
      refine q_iload_n dX12_text_20 rfl ?_
      obtain ⟨⟨fs21, f21⟩, hq⟩ := vob_e hq
      refine q_cV (Y := mX1_sourceCharacter) (As := [.int u1, .int u2]) (st := []) (b := x16) (ci := 3) vc_X1_sourceCharacter dX12_text_21 ml_RX12_164 rfl f21 rfl (Nat.le_of_ble_eq_true rfl) rfl (Nat.le_of_ble_eq_true rfl) hq (fun v h1 hq1 => ?_) (fun E h1 hq1 => ?_)
      rotate_left
      ·
        rcases hq1 with hq1 | ⟨E1, e1, hq1⟩
        · obtain ⟨_, z, _⟩ := hq1; exact nomatch z
        · obtain rfl := Sum.inr.inj e1; exact q_xout (fun z hz => nomatch hz) hq1
      rcases hq1 with hq1 | ⟨E1, e1, hq1⟩
      rotate_left
      · exact nomatch e1
      obtain ⟨x21, hv, hq⟩ := hq1
      obtain rfl := Sum.inl.inj hv
      clear hv
      obtain ⟨h21, eh21⟩ : ∃ z, z = h1 := ⟨_, rfl⟩
      rw [← eh21] at hq ⊢
      clear eh21
      show mv_rq l G mX12_text (d + 1) 24 [some (.ref u0), some (.int u1), some (.int u2)] [.int x21] h21 _
      refine q_goto (tgt := 28) dX12_text_24 (by decide) ?_
      exact q_iret (ty := .int) dX12_text_28 rfl rfl hq
def w_X12_takeText (l : Launch) (G : mv_G) (d : Nat) (u0 : Nat) (h : mv_H) (Q : mv_O → mv_H → Prop) : Prop :=
  vgb h u0 14 0 fun x1 =>
  vob h x1 1 (
  mv_rq l G mJ4_toString_0e30d d 0 (mv_in [.ref x1] 1) [] h (vB (fun E h1 => Q (.inr E) h1) (fun x4 h4 =>
  vgb h4 u0 14 0 fun x9 =>
  vob h4 x9 1 (
  mv_rq l G mJ4_setLength_d00df d 0 (mv_in [.ref x9, .int 0] 2) [] h4 (vU (fun E h1 => Q (.inr E) h1) (fun h13 =>
  Q (.inl (some (.ref x4))) h13))))))
theorem v_X12_takeText {l : Launch} {G : mv_G} {d : Nat} {u0 : Nat} {h : mv_H} {Q : mv_O → mv_H → Prop} (hG : mv_ok G) (hq : w_X12_takeText l G d u0 h Q) : mv_rq l G mX12_takeText (d + 1) 0 (mv_in [.ref u0] 2) [] h Q := by
  unfold w_X12_takeText at hq
  show mv_rq l G mX12_takeText (d + 1) 0 [some (.ref u0), none] [] h _
  refine q_aload_n dX12_takeText_0 rfl ?_
  obtain ⟨fs1, x1, f1, g1, hq⟩ := vgb_e hq
  refine q_getf (k := 0) (T := TX12) (C0 := RX12) (N := 10) (ci := 14) dX12_takeText_1 fl_RX12_10 rfl uin_RX12 (by decide) rfl f1 g1 ?_
  obtain ⟨⟨fs4, f4⟩, hq⟩ := vob_e hq
  refine q_cV (Y := mJ4_toString_0e30d) (As := []) (st := []) (b := x1) (ci := 1) vc_J4_toString_0e30d dX12_takeText_4 ml_RX12_168 rfl f4 rfl (Nat.le_of_ble_eq_true rfl) rfl (Nat.le_of_ble_eq_true rfl) hq (fun v h1 hq1 => ?_) (fun E h1 hq1 => ?_)
  rotate_left
  ·
    rcases hq1 with hq1 | ⟨E1, e1, hq1⟩
    · obtain ⟨_, z, _⟩ := hq1; exact nomatch z
    · obtain rfl := Sum.inr.inj e1; exact q_xout (fun z hz => nomatch hz) hq1
  rcases hq1 with hq1 | ⟨E1, e1, hq1⟩
  rotate_left
  · exact nomatch e1
  obtain ⟨x4, hv, hq⟩ := hq1
  obtain rfl := Sum.inl.inj hv
  clear hv
  obtain ⟨h4, eh4⟩ : ∃ z, z = h1 := ⟨_, rfl⟩
  rw [← eh4] at hq ⊢
  clear eh4
  show mv_rq l G mX12_takeText (d + 1) 7 [some (.ref u0), none] [.ref x4] h4 _
  refine q_astore_n dX12_takeText_7 (Nat.le_of_ble_eq_true rfl) rfl ?_
  show mv_rq l G mX12_takeText (d + 1) 8 [some (.ref u0), some (.ref x4)] [] h4 _
  refine q_aload_n dX12_takeText_8 rfl ?_
  obtain ⟨fs9, x9, f9, g9, hq⟩ := vgb_e hq
  refine q_getf (k := 0) (T := TX12) (C0 := RX12) (N := 10) (ci := 14) dX12_takeText_9 fl_RX12_10 rfl uin_RX12 (by decide) rfl f9 g9 ?_
  refine q_iconst (v := 0) dX12_takeText_12 (by decide) ?_
  obtain ⟨⟨fs13, f13⟩, hq⟩ := vob_e hq
  refine q_cV (Y := mJ4_setLength_d00df) (As := [.int 0]) (st := []) (b := x9) (ci := 1) vc_J4_setLength_d00df dX12_takeText_13 ml_RX12_155 rfl f13 rfl (Nat.le_of_ble_eq_true rfl) rfl (Nat.le_of_ble_eq_true rfl) hq (fun v h1 hq1 => ?_) (fun E h1 hq1 => ?_)
  rotate_left
  ·
    rcases hq1 with hq1 | ⟨E1, e1, hq1⟩
    · exact nomatch hq1.1
    · obtain rfl := Sum.inr.inj e1; exact q_xout (fun z hz => nomatch hz) hq1
  rcases hq1 with hq1 | ⟨E1, e1, hq1⟩
  rotate_left
  · exact nomatch e1
  obtain ⟨hv, hq⟩ := hq1
  obtain rfl := Sum.inl.inj hv
  clear hv
  obtain ⟨h13, eh13⟩ : ∃ z, z = h1 := ⟨_, rfl⟩
  rw [← eh13] at hq ⊢
  clear eh13
  show mv_rq l G mX12_takeText (d + 1) 16 [some (.ref u0), some (.ref x4)] [] h13 _
  refine q_aload_n dX12_takeText_16 rfl ?_
  exact q_aret (rt := (.object "java/lang/String")) dX12_takeText_17 rfl (Or.inl ⟨_, rfl⟩) (Or.inr ⟨_, rfl⟩) hq
