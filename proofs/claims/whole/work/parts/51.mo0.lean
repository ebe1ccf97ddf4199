theorem ki_0 : md_k 0 = none := by decide +kernel
theorem kp_0 : parseFieldDescriptor (TX13 0).2.2.1 = some .int := by decide +kernel
theorem kk_1 : md_k 1 = some (0, 160) := by decide +kernel
theorem ki_2 : md_k 2 = none := by decide +kernel
theorem kp_2 : parseFieldDescriptor (TX13 2).2.2.1 = some .int := by decide +kernel
theorem ki_3 : md_k 3 = none := by decide +kernel
theorem kp_3 : parseFieldDescriptor (TX13 3).2.2.1 = some .int := by decide +kernel
theorem kk_4 : md_k 4 = some (0, 160) := by decide +kernel
theorem ki_5 : md_k 5 = none := by decide +kernel
theorem kp_5 : parseFieldDescriptor (TX13 5).2.2.1 = some .int := by decide +kernel
theorem ki_6 : md_k 6 = none := by decide +kernel
theorem kp_6 : parseFieldDescriptor (TX13 6).2.2.1 = some .int := by decide +kernel
theorem ki_7 : md_k 7 = none := by decide +kernel
theorem kp_7 : parseFieldDescriptor (TX13 7).2.2.1 = some .int := by decide +kernel
theorem ki_8 : md_k 8 = none := by decide +kernel
theorem kp_8 : parseFieldDescriptor (TX13 8).2.2.1 = some .boolean := by decide +kernel
theorem ki_9 : md_k 9 = none := by decide +kernel
theorem kp_9 : parseFieldDescriptor (TX13 9).2.2.1 = some .int := by decide +kernel
theorem ki_10 : md_k 10 = none := by decide +kernel
theorem kp_10 : parseFieldDescriptor (TX13 10).2.2.1 = some .int := by decide +kernel
theorem kk_11 : md_k 11 = some (0, 160) := by decide +kernel
theorem kk_12 : md_k 12 = some (1, 41) := by decide +kernel
theorem kk_13 : md_k 13 = some (1, 41) := by decide +kernel
theorem kk_14 : md_k 14 = some (1, 41) := by decide +kernel
theorem kk_15 : md_k 15 = some (1, 41) := by decide +kernel
theorem kk_16 : md_k 16 = some (1, 41) := by decide +kernel
theorem kk_17 : md_k 17 = some (1, 41) := by decide +kernel
theorem kk_18 : md_k 18 = some (1, 41) := by decide +kernel
theorem kk_19 : md_k 19 = some (1, 41) := by decide +kernel
theorem kk_20 : md_k 20 = some (1, 8) := by decide +kernel
theorem ki_21 : md_k 21 = none := by decide +kernel
theorem kp_21 : parseFieldDescriptor (TX13 21).2.2.1 = some .int := by decide +kernel
theorem ki_22 : md_k 22 = none := by decide +kernel
theorem kp_22 : parseFieldDescriptor (TX13 22).2.2.1 = some .int := by decide +kernel
theorem ki_23 : md_k 23 = none := by decide +kernel
theorem kp_23 : parseFieldDescriptor (TX13 23).2.2.1 = some .int := by decide +kernel
theorem ki_24 : md_k 24 = none := by decide +kernel
theorem kp_24 : parseFieldDescriptor (TX13 24).2.2.1 = some .boolean := by decide +kernel
theorem ki_25 : md_k 25 = none := by decide +kernel
theorem kp_25 : parseFieldDescriptor (TX13 25).2.2.1 = some .int := by decide +kernel
theorem ki_26 : md_k 26 = none := by decide +kernel
theorem kp_26 : parseFieldDescriptor (TX13 26).2.2.1 = some .int := by decide +kernel
theorem ki_27 : md_k 27 = none := by decide +kernel
theorem kp_27 : parseFieldDescriptor (TX13 27).2.2.1 = some .int := by decide +kernel
theorem ki_28 : md_k 28 = none := by decide +kernel
theorem kp_28 : parseFieldDescriptor (TX13 28).2.2.1 = some .int := by decide +kernel
theorem ki_29 : md_k 29 = none := by decide +kernel
theorem kp_29 : parseFieldDescriptor (TX13 29).2.2.1 = some .int := by decide +kernel
theorem ki_30 : md_k 30 = none := by decide +kernel
theorem kp_30 : parseFieldDescriptor (TX13 30).2.2.1 = some .int := by decide +kernel
theorem ki_31 : md_k 31 = none := by decide +kernel
theorem kp_31 : parseFieldDescriptor (TX13 31).2.2.1 = some .int := by decide +kernel
theorem kk_32 : md_k 32 = some (0, 160) := by decide +kernel
theorem kk_33 : md_k 33 = some (1, 100) := by decide +kernel
theorem kk_34 : md_k 34 = some (1, 100) := by decide +kernel
theorem kk_35 : md_k 35 = some (1, 100) := by decide +kernel
theorem kk_36 : md_k 36 = some (2, 100) := by decide +kernel
theorem kk_37 : md_k 37 = some (1, 170) := by decide +kernel
theorem kk_38 : md_k 38 = some (1, 170) := by decide +kernel
theorem kk_39 : md_k 39 = some (1, 170) := by decide +kernel
theorem kk_40 : md_k 40 = some (1, 170) := by decide +kernel
theorem kk_41 : md_k 41 = some (1, 170) := by decide +kernel
theorem kk_42 : md_k 42 = some (2, 170) := by decide +kernel
theorem kk_43 : md_k 43 = some (1, 170) := by decide +kernel
theorem kk_44 : md_k 44 = some (1, 170) := by decide +kernel
theorem kk_45 : md_k 45 = some (1, 170) := by decide +kernel
theorem kk_46 : md_k 46 = some (1, 170) := by decide +kernel
theorem kk_47 : md_k 47 = some (1, 170) := by decide +kernel
theorem kk_48 : md_k 48 = some (1, 170) := by decide +kernel
theorem kk_49 : md_k 49 = some (1, 50) := by decide +kernel
theorem kk_50 : md_k 50 = some (1, 50) := by decide +kernel
theorem kk_51 : md_k 51 = some (1, 170) := by decide +kernel
theorem kk_52 : md_k 52 = some (1, 170) := by decide +kernel
theorem kk_53 : md_k 53 = some (1, 170) := by decide +kernel
theorem kk_54 : md_k 54 = some (1, 170) := by decide +kernel
theorem ki_55 : md_k 55 = none := by decide +kernel
theorem kp_55 : parseFieldDescriptor (TX13 55).2.2.1 = some .int := by decide +kernel
theorem kk_56 : md_k 56 = some (1, 400) := by decide +kernel
theorem kk_57 : md_k 57 = some (1, 400) := by decide +kernel
theorem kk_58 : md_k 58 = some (1, 400) := by decide +kernel
theorem ki_59 : md_k 59 = none := by decide +kernel
theorem kp_59 : parseFieldDescriptor (TX13 59).2.2.1 = some .int := by decide +kernel
theorem ki_60 : md_k 60 = none := by decide +kernel
theorem kp_60 : parseFieldDescriptor (TX13 60).2.2.1 = some .boolean := by decide +kernel
theorem ki_61 : md_k 61 = none := by decide +kernel
theorem kp_61 : parseFieldDescriptor (TX13 61).2.2.1 = some .int := by decide +kernel
theorem kk_62 : md_k 62 = some (1, 8) := by decide +kernel
theorem kk_63 : md_k 63 = some (1, 8) := by decide +kernel
theorem kk_64 : md_k 64 = some (1, 8) := by decide +kernel
theorem kk_65 : md_k 65 = some (1, 8) := by decide +kernel
theorem kk_66 : md_k 66 = some (1, 8) := by decide +kernel
theorem kk_67 : md_k 67 = some (1, 8) := by decide +kernel
theorem kk_68 : md_k 68 = some (1, 8) := by decide +kernel
theorem kk_69 : md_k 69 = some (1, 8) := by decide +kernel
theorem kk_70 : md_k 70 = some (1, 8) := by decide +kernel
theorem kk_71 : md_k 71 = some (1, 8) := by decide +kernel
theorem kk_72 : md_k 72 = some (1, 8) := by decide +kernel
theorem kk_73 : md_k 73 = some (1, 8) := by decide +kernel
theorem kk_74 : md_k 74 = some (1, 2400) := by decide +kernel
theorem kk_75 : md_k 75 = some (1, 2400) := by decide +kernel
theorem ki_76 : md_k 76 = none := by decide +kernel
theorem kp_76 : parseFieldDescriptor (TX13 76).2.2.1 = some .int := by decide +kernel
theorem kk_77 : md_k 77 = some (1, 100) := by decide +kernel
theorem kk_78 : md_k 78 = some (1, 100) := by decide +kernel
theorem kk_79 : md_k 79 = some (1, 100) := by decide +kernel
theorem kk_80 : md_k 80 = some (1, 200) := by decide +kernel
theorem kk_81 : md_k 81 = some (1, 200) := by decide +kernel
theorem ki_82 : md_k 82 = none := by decide +kernel
theorem kp_82 : parseFieldDescriptor (TX13 82).2.2.1 = some .int := by decide +kernel
theorem kk_83 : md_k 83 = some (1, 300) := by decide +kernel
theorem ki_84 : md_k 84 = none := by decide +kernel
theorem kp_84 : parseFieldDescriptor (TX13 84).2.2.1 = some .int := by decide +kernel
theorem kk_85 : md_k 85 = some (0, 400) := by decide +kernel
theorem ki_86 : md_k 86 = none := by decide +kernel
theorem kp_86 : parseFieldDescriptor (TX13 86).2.2.1 = some .int := by decide +kernel
theorem ki_87 : md_k 87 = none := by decide +kernel
theorem kp_87 : parseFieldDescriptor (TX13 87).2.2.1 = some .int := by decide +kernel
theorem md_nQ {G : mv_G} {B : mv_H} {m : Nat} {q : Int32 × md_S} {E : String × Nat} {h1 : mv_H} {P : Prop} (h : md_Q G B m q (.inr E) h1) : P := nomatch h.1
theorem md_nV {G : mv_G} {B : mv_H} {m : Nat} {q : md_S} {E : String × Nat} {h1 : mv_H} {P : Prop} (h : md_V G B m q (.inr E) h1) : P := nomatch h.1
theorem dX13_thrown_0 : decode cX13_thrown 0 = .ok (.aload_n 0, 1) := by decide +kernel
theorem dX13_thrown_1 : decode cX13_thrown 1 = .ok (.getfield 193, 3) := by decide +kernel
theorem dX13_thrown_4 : decode cX13_thrown 4 = .ok (.ireturn, 1) := by decide +kernel
theorem dX13_type_0 : decode cX13_type 0 = .ok (.aload_n 0, 1) := by decide +kernel
theorem dX13_type_1 : decode cX13_type 1 = .ok (.iconst 0, 1) := by decide +kernel
theorem dX13_type_2 : decode cX13_type 2 = .ok (.putfield 193, 3) := by decide +kernel
theorem dX13_type_5 : decode cX13_type 5 = .ok (.iload_n 1, 1) := by decide +kernel
theorem dX13_type_6 : decode cX13_type 6 = .ok (.bipush 32, 2) := by decide +kernel
theorem dX13_type_8 : decode cX13_type 8 = .ok (.if_icmp .lt 19, 3) := by decide +kernel
theorem dX13_type_11 : decode cX13_type 11 = .ok (.iload_n 1, 1) := by decide +kernel
theorem dX13_type_12 : decode cX13_type 12 = .ok (.bipush 126, 2) := by decide +kernel
theorem dX13_type_14 : decode cX13_type 14 = .ok (.if_icmp .gt 13, 3) := by decide +kernel
theorem dX13_type_17 : decode cX13_type 17 = .ok (.aload_n 0, 1) := by decide +kernel
theorem dX13_type_18 : decode cX13_type 18 = .ok (.getfield 196, 3) := by decide +kernel
theorem dX13_type_21 : decode cX13_type 21 = .ok (.sipush 160, 3) := by decide +kernel
theorem dX13_type_24 : decode cX13_type 24 = .ok (.if_icmp .ne 5, 3) := by decide +kernel
theorem dX13_type_27 : decode cX13_type 27 = .ok (.iconst 0, 1) := by decide +kernel
theorem dX13_type_28 : decode cX13_type 28 = .ok (.ireturn, 1) := by decide +kernel
theorem dX13_type_29 : decode cX13_type 29 = .ok (.aload_n 0, 1) := by decide +kernel
theorem dX13_type_30 : decode cX13_type 30 = .ok (.getfield 7, 3) := by decide +kernel
theorem dX13_type_33 : decode cX13_type 33 = .ok (.aload_n 0, 1) := by decide +kernel
theorem dX13_type_34 : decode cX13_type 34 = .ok (.getfield 196, 3) := by decide +kernel
theorem dX13_type_37 : decode cX13_type 37 = .ok (.iload_n 1, 1) := by decide +kernel
theorem dX13_type_38 : decode cX13_type 38 = .ok (.i2b, 1) := by decide +kernel
theorem dX13_type_39 : decode cX13_type 39 = .ok (.bastore, 1) := by decide +kernel
theorem dX13_type_40 : decode cX13_type 40 = .ok (.aload_n 0, 1) := by decide +kernel
theorem dX13_type_41 : decode cX13_type 41 = .ok (.dup, 1) := by decide +kernel
theorem dX13_type_42 : decode cX13_type 42 = .ok (.getfield 196, 3) := by decide +kernel
theorem dX13_type_45 : decode cX13_type 45 = .ok (.iconst 1, 1) := by decide +kernel
theorem dX13_type_46 : decode cX13_type 46 = .ok (.iadd, 1) := by decide +kernel
theorem dX13_type_47 : decode cX13_type 47 = .ok (.putfield 196, 3) := by decide +kernel
theorem dX13_type_50 : decode cX13_type 50 = .ok (.iconst 1, 1) := by decide +kernel
theorem dX13_type_51 : decode cX13_type 51 = .ok (.ireturn, 1) := by decide +kernel
theorem dX13_take_0 : decode cX13_take 0 = .ok (.iconst 0, 1) := by decide +kernel
theorem dX13_take_1 : decode cX13_take 1 = .ok (.istore_n 3, 1) := by decide +kernel
theorem dX13_take_2 : decode cX13_take 2 = .ok (.iload_n 3, 1) := by decide +kernel
theorem dX13_take_3 : decode cX13_take 3 = .ok (.iload_n 2, 1) := by decide +kernel
theorem dX13_take_4 : decode cX13_take 4 = .ok (.if_icmp .ge 18, 3) := by decide +kernel
theorem dX13_take_7 : decode cX13_take 7 = .ok (.aload_n 0, 1) := by decide +kernel
theorem dX13_take_8 : decode cX13_take 8 = .ok (.getfield 17, 3) := by decide +kernel
theorem dX13_take_11 : decode cX13_take 11 = .ok (.iload_n 3, 1) := by decide +kernel
theorem dX13_take_12 : decode cX13_take 12 = .ok (.aload_n 1, 1) := by decide +kernel
theorem dX13_take_13 : decode cX13_take 13 = .ok (.iload_n 3, 1) := by decide +kernel
theorem dX13_take_14 : decode cX13_take 14 = .ok (.baload, 1) := by decide +kernel
theorem dX13_take_15 : decode cX13_take 15 = .ok (.bastore, 1) := by decide +kernel
theorem dX13_take_16 : decode cX13_take 16 = .ok (.iinc 3 1, 3) := by decide +kernel
theorem dX13_take_19 : decode cX13_take 19 = .ok (.goto (-17), 3) := by decide +kernel
theorem dX13_take_22 : decode cX13_take 22 = .ok (.aload_n 0, 1) := by decide +kernel
theorem dX13_take_23 : decode cX13_take 23 = .ok (.iload_n 2, 1) := by decide +kernel
theorem dX13_take_24 : decode cX13_take 24 = .ok (.putfield 199, 3) := by decide +kernel
theorem dX13_take_27 : decode cX13_take 27 = .ok (.aload_n 0, 1) := by decide +kernel
theorem dX13_take_28 : decode cX13_take 28 = .ok (.iconst 0, 1) := by decide +kernel
theorem dX13_take_29 : decode cX13_take 29 = .ok (.putfield 202, 3) := by decide +kernel
theorem dX13_take_32 : decode cX13_take 32 = .ok (.aload_n 0, 1) := by decide +kernel
theorem dX13_take_33 : decode cX13_take 33 = .ok (.iconst (-1), 1) := by decide +kernel
theorem dX13_take_34 : decode cX13_take 34 = .ok (.putfield 205, 3) := by decide +kernel
theorem dX13_take_37 : decode cX13_take 37 = .ok (.return_, 1) := by decide +kernel
theorem dX13_at_0 : decode cX13_at 0 = .ok (.iload_n 1, 1) := by decide +kernel
theorem dX13_at_1 : decode cX13_at 1 = .ok (.aload_n 0, 1) := by decide +kernel
theorem dX13_at_2 : decode cX13_at 2 = .ok (.getfield 199, 3) := by decide +kernel
theorem dX13_at_5 : decode cX13_at 5 = .ok (.if_icmp .ge 12, 3) := by decide +kernel
theorem dX13_at_8 : decode cX13_at 8 = .ok (.aload_n 0, 1) := by decide +kernel
theorem dX13_at_9 : decode cX13_at 9 = .ok (.getfield 17, 3) := by decide +kernel
theorem dX13_at_12 : decode cX13_at 12 = .ok (.iload_n 1, 1) := by decide +kernel
theorem dX13_at_13 : decode cX13_at 13 = .ok (.baload, 1) := by decide +kernel
theorem dX13_at_14 : decode cX13_at 14 = .ok (.goto 4, 3) := by decide +kernel
theorem dX13_at_17 : decode cX13_at 17 = .ok (.iconst (-1), 1) := by decide +kernel
theorem dX13_at_18 : decode cX13_at 18 = .ok (.ireturn, 1) := by decide +kernel
theorem dX13_good_0 : decode cX13_good 0 = .ok (.aload_n 0, 1) := by decide +kernel
theorem dX13_good_1 : decode cX13_good 1 = .ok (.getfield 205, 3) := by decide +kernel
theorem dX13_good_4 : decode cX13_good 4 = .ok (.iconst (-1), 1) := by decide +kernel
theorem dX13_good_5 : decode cX13_good 5 = .ok (.if_icmp .ne 7, 3) := by decide +kernel
theorem dX13_good_8 : decode cX13_good 8 = .ok (.iconst 1, 1) := by decide +kernel
theorem dX13_good_9 : decode cX13_good 9 = .ok (.goto 4, 3) := by decide +kernel
theorem dX13_good_12 : decode cX13_good 12 = .ok (.iconst 0, 1) := by decide +kernel
theorem dX13_good_13 : decode cX13_good 13 = .ok (.ireturn, 1) := by decide +kernel
theorem dX13_fail_0 : decode cX13_fail 0 = .ok (.aload_n 0, 1) := by decide +kernel
theorem dX13_fail_1 : decode cX13_fail 1 = .ok (.aload_n 0, 1) := by decide +kernel
theorem dX13_fail_2 : decode cX13_fail 2 = .ok (.invokevirtual 208, 3) := by decide +kernel
theorem dX13_fail_5 : decode cX13_fail 5 = .ok (.ifCond .eq 7, 3) := by decide +kernel
theorem dX13_fail_8 : decode cX13_fail 8 = .ok (.iload_n 1, 1) := by decide +kernel
theorem dX13_fail_9 : decode cX13_fail 9 = .ok (.goto 7, 3) := by decide +kernel
theorem dX13_fail_12 : decode cX13_fail 12 = .ok (.aload_n 0, 1) := by decide +kernel
theorem dX13_fail_13 : decode cX13_fail 13 = .ok (.getfield 205, 3) := by decide +kernel
theorem dX13_fail_16 : decode cX13_fail 16 = .ok (.putfield 205, 3) := by decide +kernel
theorem dX13_fail_19 : decode cX13_fail 19 = .ok (.return_, 1) := by decide +kernel
theorem dX13_isDigit_0 : decode cX13_isDigit 0 = .ok (.iload_n 0, 1) := by decide +kernel
theorem dX13_isDigit_1 : decode cX13_isDigit 1 = .ok (.bipush 48, 2) := by decide +kernel
theorem dX13_isDigit_3 : decode cX13_isDigit 3 = .ok (.if_icmp .lt 13, 3) := by decide +kernel
theorem dX13_isDigit_6 : decode cX13_isDigit 6 = .ok (.iload_n 0, 1) := by decide +kernel
theorem dX13_isDigit_7 : decode cX13_isDigit 7 = .ok (.bipush 57, 2) := by decide +kernel
theorem dX13_isDigit_9 : decode cX13_isDigit 9 = .ok (.if_icmp .gt 7, 3) := by decide +kernel
theorem dX13_isDigit_12 : decode cX13_isDigit 12 = .ok (.iconst 1, 1) := by decide +kernel
theorem dX13_isDigit_13 : decode cX13_isDigit 13 = .ok (.goto 4, 3) := by decide +kernel
theorem dX13_isDigit_16 : decode cX13_isDigit 16 = .ok (.iconst 0, 1) := by decide +kernel
theorem dX13_isDigit_17 : decode cX13_isDigit 17 = .ok (.ireturn, 1) := by decide +kernel
theorem dX13_isLetter_0 : decode cX13_isLetter 0 = .ok (.iload_n 0, 1) := by decide +kernel
theorem dX13_isLetter_1 : decode cX13_isLetter 1 = .ok (.bipush 97, 2) := by decide +kernel
theorem dX13_isLetter_3 : decode cX13_isLetter 3 = .ok (.if_icmp .lt 13, 3) := by decide +kernel
theorem dX13_isLetter_6 : decode cX13_isLetter 6 = .ok (.iload_n 0, 1) := by decide +kernel
theorem dX13_isLetter_7 : decode cX13_isLetter 7 = .ok (.bipush 122, 2) := by decide +kernel
theorem dX13_isLetter_9 : decode cX13_isLetter 9 = .ok (.if_icmp .gt 7, 3) := by decide +kernel
theorem dX13_isLetter_12 : decode cX13_isLetter 12 = .ok (.iconst 1, 1) := by decide +kernel
theorem dX13_isLetter_13 : decode cX13_isLetter 13 = .ok (.goto 4, 3) := by decide +kernel
theorem dX13_isLetter_16 : decode cX13_isLetter 16 = .ok (.iconst 0, 1) := by decide +kernel
theorem dX13_isLetter_17 : decode cX13_isLetter 17 = .ok (.ireturn, 1) := by decide +kernel
theorem dX13_need_0 : decode cX13_need 0 = .ok (.aload_n 0, 1) := by decide +kernel
theorem dX13_need_1 : decode cX13_need 1 = .ok (.invokevirtual 208, 3) := by decide +kernel
theorem dX13_need_4 : decode cX13_need 4 = .ok (.ifCond .eq 28, 3) := by decide +kernel
theorem dX13_need_7 : decode cX13_need 7 = .ok (.aload_n 0, 1) := by decide +kernel
theorem dX13_need_8 : decode cX13_need 8 = .ok (.aload_n 0, 1) := by decide +kernel
theorem dX13_need_9 : decode cX13_need 9 = .ok (.getfield 202, 3) := by decide +kernel
theorem dX13_need_12 : decode cX13_need 12 = .ok (.invokevirtual 212, 3) := by decide +kernel
theorem dX13_need_15 : decode cX13_need 15 = .ok (.iload_n 1, 1) := by decide +kernel
theorem dX13_need_16 : decode cX13_need 16 = .ok (.if_icmp .ne 16, 3) := by decide +kernel
theorem dX13_need_19 : decode cX13_need 19 = .ok (.aload_n 0, 1) := by decide +kernel
theorem dX13_need_20 : decode cX13_need 20 = .ok (.dup, 1) := by decide +kernel
theorem dX13_need_21 : decode cX13_need 21 = .ok (.getfield 202, 3) := by decide +kernel
theorem dX13_need_24 : decode cX13_need 24 = .ok (.iconst 1, 1) := by decide +kernel
theorem dX13_need_25 : decode cX13_need 25 = .ok (.iadd, 1) := by decide +kernel
theorem dX13_need_26 : decode cX13_need 26 = .ok (.putfield 202, 3) := by decide +kernel
theorem dX13_need_29 : decode cX13_need 29 = .ok (.goto 11, 3) := by decide +kernel
theorem dX13_need_32 : decode cX13_need 32 = .ok (.aload_n 0, 1) := by decide +kernel
theorem dX13_need_33 : decode cX13_need 33 = .ok (.aload_n 0, 1) := by decide +kernel
theorem dX13_need_34 : decode cX13_need 34 = .ok (.getfield 202, 3) := by decide +kernel
theorem dX13_need_37 : decode cX13_need 37 = .ok (.invokevirtual 216, 3) := by decide +kernel
theorem dX13_need_40 : decode cX13_need 40 = .ok (.return_, 1) := by decide +kernel
theorem dX13_word_0 : decode cX13_word 0 = .ok (.iload_n 3, 1) := by decide +kernel
theorem dX13_word_1 : decode cX13_word 1 = .ok (.iconst 1, 1) := by decide +kernel
theorem dX13_word_2 : decode cX13_word 2 = .ok (.isub, 1) := by decide +kernel
theorem dX13_word_3 : decode cX13_word 3 = .ok (.istore 4, 2) := by decide +kernel
theorem dX13_word_5 : decode cX13_word 5 = .ok (.iload 4, 2) := by decide +kernel
theorem dX13_word_7 : decode cX13_word 7 = .ok (.ifCond .lt 25, 3) := by decide +kernel
theorem dX13_word_10 : decode cX13_word 10 = .ok (.aload_n 0, 1) := by decide +kernel
theorem dX13_word_11 : decode cX13_word 11 = .ok (.lload_n 1, 1) := by decide +kernel
theorem dX13_word_12 : decode cX13_word 12 = .ok (.bipush 8, 2) := by decide +kernel
theorem dX13_word_14 : decode cX13_word 14 = .ok (.iload 4, 2) := by decide +kernel
theorem dX13_word_16 : decode cX13_word 16 = .ok (.imul, 1) := by decide +kernel
theorem dX13_word_17 : decode cX13_word 17 = .ok (.lshr, 1) := by decide +kernel
theorem dX13_word_18 : decode cX13_word 18 = .ok (.ldc2_w 220, 3) := by decide +kernel
theorem dX13_word_21 : decode cX13_word 21 = .ok (.land, 1) := by decide +kernel
theorem dX13_word_22 : decode cX13_word 22 = .ok (.l2i, 1) := by decide +kernel
theorem dX13_word_23 : decode cX13_word 23 = .ok (.invokevirtual 222, 3) := by decide +kernel
theorem dX13_word_26 : decode cX13_word 26 = .ok (.iinc 4 (-1), 3) := by decide +kernel
theorem dX13_word_29 : decode cX13_word 29 = .ok (.goto (-24), 3) := by decide +kernel
theorem dX13_word_32 : decode cX13_word 32 = .ok (.return_, 1) := by decide +kernel
theorem dX13_readString_0 : decode cX13_readString 0 = .ok (.aload_n 0, 1) := by decide +kernel
theorem dX13_readString_1 : decode cX13_readString 1 = .ok (.getfield 202, 3) := by decide +kernel
theorem dX13_readString_4 : decode cX13_readString 4 = .ok (.istore_n 3, 1) := by decide +kernel
theorem dX13_readString_5 : decode cX13_readString 5 = .ok (.aload_n 0, 1) := by decide +kernel
theorem dX13_readString_6 : decode cX13_readString 6 = .ok (.dup, 1) := by decide +kernel
theorem dX13_readString_7 : decode cX13_readString 7 = .ok (.getfield 202, 3) := by decide +kernel
theorem dX13_readString_10 : decode cX13_readString 10 = .ok (.iconst 1, 1) := by decide +kernel
theorem dX13_readString_11 : decode cX13_readString 11 = .ok (.iadd, 1) := by decide +kernel
theorem dX13_readString_12 : decode cX13_readString 12 = .ok (.putfield 202, 3) := by decide +kernel
theorem dX13_readString_15 : decode cX13_readString 15 = .ok (.aload_n 0, 1) := by decide +kernel
theorem dX13_readString_16 : decode cX13_readString 16 = .ok (.aload_n 0, 1) := by decide +kernel
theorem dX13_readString_17 : decode cX13_readString 17 = .ok (.getfield 202, 3) := by decide +kernel
theorem dX13_readString_20 : decode cX13_readString 20 = .ok (.putfield 225, 3) := by decide +kernel
theorem dX13_readString_23 : decode cX13_readString 23 = .ok (.aload_n 0, 1) := by decide +kernel
theorem dX13_readString_24 : decode cX13_readString 24 = .ok (.invokevirtual 208, 3) := by decide +kernel
theorem dX13_readString_27 : decode cX13_readString 27 = .ok (.ifCond .eq 85, 3) := by decide +kernel
theorem dX13_readString_30 : decode cX13_readString 30 = .ok (.aload_n 0, 1) := by decide +kernel
theorem dX13_readString_31 : decode cX13_readString 31 = .ok (.aload_n 0, 1) := by decide +kernel
theorem dX13_readString_32 : decode cX13_readString 32 = .ok (.getfield 202, 3) := by decide +kernel
theorem dX13_readString_35 : decode cX13_readString 35 = .ok (.invokevirtual 212, 3) := by decide +kernel
theorem dX13_readString_38 : decode cX13_readString 38 = .ok (.iload_n 1, 1) := by decide +kernel
theorem dX13_readString_39 : decode cX13_readString 39 = .ok (.if_icmp .eq 73, 3) := by decide +kernel
theorem dX13_readString_42 : decode cX13_readString 42 = .ok (.aload_n 0, 1) := by decide +kernel
theorem dX13_readString_43 : decode cX13_readString 43 = .ok (.aload_n 0, 1) := by decide +kernel
theorem dX13_readString_44 : decode cX13_readString 44 = .ok (.getfield 202, 3) := by decide +kernel
theorem dX13_readString_47 : decode cX13_readString 47 = .ok (.invokevirtual 212, 3) := by decide +kernel
theorem dX13_readString_50 : decode cX13_readString 50 = .ok (.iconst (-1), 1) := by decide +kernel
theorem dX13_readString_51 : decode cX13_readString 51 = .ok (.if_icmp .eq 15, 3) := by decide +kernel
theorem dX13_readString_54 : decode cX13_readString 54 = .ok (.aload_n 0, 1) := by decide +kernel
theorem dX13_readString_55 : decode cX13_readString 55 = .ok (.aload_n 0, 1) := by decide +kernel
theorem dX13_readString_56 : decode cX13_readString 56 = .ok (.getfield 202, 3) := by decide +kernel
theorem dX13_readString_59 : decode cX13_readString 59 = .ok (.invokevirtual 212, 3) := by decide +kernel
theorem dX13_readString_62 : decode cX13_readString 62 = .ok (.iload_n 2, 1) := by decide +kernel
theorem dX13_readString_63 : decode cX13_readString 63 = .ok (.if_icmp .ne 14, 3) := by decide +kernel
theorem dX13_readString_66 : decode cX13_readString 66 = .ok (.aload_n 0, 1) := by decide +kernel
theorem dX13_readString_67 : decode cX13_readString 67 = .ok (.aload_n 0, 1) := by decide +kernel
theorem dX13_readString_68 : decode cX13_readString 68 = .ok (.getfield 202, 3) := by decide +kernel
theorem dX13_readString_71 : decode cX13_readString 71 = .ok (.invokevirtual 216, 3) := by decide +kernel
theorem dX13_readString_74 : decode cX13_readString 74 = .ok (.goto (-51), 3) := by decide +kernel
theorem dX13_readString_77 : decode cX13_readString 77 = .ok (.aload_n 0, 1) := by decide +kernel
theorem dX13_readString_78 : decode cX13_readString 78 = .ok (.getfield 202, 3) := by decide +kernel
theorem dX13_readString_81 : decode cX13_readString 81 = .ok (.aload_n 0, 1) := by decide +kernel
theorem dX13_readString_82 : decode cX13_readString 82 = .ok (.getfield 225, 3) := by decide +kernel
theorem dX13_readString_85 : decode cX13_readString 85 = .ok (.isub, 1) := by decide +kernel
theorem dX13_readString_86 : decode cX13_readString 86 = .ok (.bipush 8, 2) := by decide +kernel
theorem dX13_readString_88 : decode cX13_readString 88 = .ok (.if_icmp .ne 11, 3) := by decide +kernel
theorem dX13_readString_91 : decode cX13_readString 91 = .ok (.aload_n 0, 1) := by decide +kernel
theorem dX13_readString_92 : decode cX13_readString 92 = .ok (.iload_n 3, 1) := by decide +kernel
theorem dX13_readString_93 : decode cX13_readString 93 = .ok (.invokevirtual 216, 3) := by decide +kernel
theorem dX13_readString_96 : decode cX13_readString 96 = .ok (.goto (-73), 3) := by decide +kernel
theorem dX13_readString_99 : decode cX13_readString 99 = .ok (.aload_n 0, 1) := by decide +kernel
theorem dX13_readString_100 : decode cX13_readString 100 = .ok (.dup, 1) := by decide +kernel
theorem dX13_readString_101 : decode cX13_readString 101 = .ok (.getfield 202, 3) := by decide +kernel
theorem dX13_readString_104 : decode cX13_readString 104 = .ok (.iconst 1, 1) := by decide +kernel
theorem dX13_readString_105 : decode cX13_readString 105 = .ok (.iadd, 1) := by decide +kernel
theorem dX13_readString_106 : decode cX13_readString 106 = .ok (.putfield 202, 3) := by decide +kernel
theorem dX13_readString_109 : decode cX13_readString 109 = .ok (.goto (-86), 3) := by decide +kernel
theorem dX13_readString_112 : decode cX13_readString 112 = .ok (.aload_n 0, 1) := by decide +kernel
theorem dX13_readString_113 : decode cX13_readString 113 = .ok (.aload_n 0, 1) := by decide +kernel
theorem dX13_readString_114 : decode cX13_readString 114 = .ok (.getfield 202, 3) := by decide +kernel
theorem dX13_readString_117 : decode cX13_readString 117 = .ok (.aload_n 0, 1) := by decide +kernel
theorem dX13_readString_118 : decode cX13_readString 118 = .ok (.getfield 225, 3) := by decide +kernel
theorem dX13_readString_121 : decode cX13_readString 121 = .ok (.isub, 1) := by decide +kernel
theorem dX13_readString_122 : decode cX13_readString 122 = .ok (.putfield 228, 3) := by decide +kernel
theorem dX13_readString_125 : decode cX13_readString 125 = .ok (.aload_n 0, 1) := by decide +kernel
theorem dX13_readString_126 : decode cX13_readString 126 = .ok (.dup, 1) := by decide +kernel
theorem dX13_readString_127 : decode cX13_readString 127 = .ok (.getfield 202, 3) := by decide +kernel
theorem dX13_readString_130 : decode cX13_readString 130 = .ok (.iconst 1, 1) := by decide +kernel
theorem dX13_readString_131 : decode cX13_readString 131 = .ok (.iadd, 1) := by decide +kernel
theorem dX13_readString_132 : decode cX13_readString 132 = .ok (.putfield 202, 3) := by decide +kernel
theorem dX13_readString_135 : decode cX13_readString 135 = .ok (.return_, 1) := by decide +kernel
theorem dX13_readNumber_0 : decode cX13_readNumber 0 = .ok (.aload_n 0, 1) := by decide +kernel
theorem dX13_readNumber_1 : decode cX13_readNumber 1 = .ok (.getfield 202, 3) := by decide +kernel
theorem dX13_readNumber_4 : decode cX13_readNumber 4 = .ok (.istore_n 2, 1) := by decide +kernel
theorem dX13_readNumber_5 : decode cX13_readNumber 5 = .ok (.aload_n 0, 1) := by decide +kernel
theorem dX13_readNumber_6 : decode cX13_readNumber 6 = .ok (.aload_n 0, 1) := by decide +kernel
theorem dX13_readNumber_7 : decode cX13_readNumber 7 = .ok (.getfield 202, 3) := by decide +kernel
theorem dX13_readNumber_10 : decode cX13_readNumber 10 = .ok (.invokevirtual 212, 3) := by decide +kernel
theorem dX13_readNumber_13 : decode cX13_readNumber 13 = .ok (.bipush 45, 2) := by decide +kernel
theorem dX13_readNumber_15 : decode cX13_readNumber 15 = .ok (.if_icmp .ne 7, 3) := by decide +kernel
theorem dX13_readNumber_18 : decode cX13_readNumber 18 = .ok (.iconst 1, 1) := by decide +kernel
theorem dX13_readNumber_19 : decode cX13_readNumber 19 = .ok (.goto 4, 3) := by decide +kernel
theorem dX13_readNumber_22 : decode cX13_readNumber 22 = .ok (.iconst 0, 1) := by decide +kernel
theorem dX13_readNumber_23 : decode cX13_readNumber 23 = .ok (.istore_n 3, 1) := by decide +kernel
theorem dX13_readNumber_24 : decode cX13_readNumber 24 = .ok (.iload_n 3, 1) := by decide +kernel
theorem dX13_readNumber_25 : decode cX13_readNumber 25 = .ok (.ifCond .eq 13, 3) := by decide +kernel
theorem dX13_readNumber_28 : decode cX13_readNumber 28 = .ok (.aload_n 0, 1) := by decide +kernel
theorem dX13_readNumber_29 : decode cX13_readNumber 29 = .ok (.dup, 1) := by decide +kernel
theorem dX13_readNumber_30 : decode cX13_readNumber 30 = .ok (.getfield 202, 3) := by decide +kernel
theorem dX13_readNumber_33 : decode cX13_readNumber 33 = .ok (.iconst 1, 1) := by decide +kernel
theorem dX13_readNumber_34 : decode cX13_readNumber 34 = .ok (.iadd, 1) := by decide +kernel
theorem dX13_readNumber_35 : decode cX13_readNumber 35 = .ok (.putfield 202, 3) := by decide +kernel
theorem dX13_readNumber_38 : decode cX13_readNumber 38 = .ok (.iconst 0, 1) := by decide +kernel
theorem dX13_readNumber_39 : decode cX13_readNumber 39 = .ok (.istore 4, 2) := by decide +kernel
theorem dX13_readNumber_41 : decode cX13_readNumber 41 = .ok (.iconst 0, 1) := by decide +kernel
theorem dX13_readNumber_42 : decode cX13_readNumber 42 = .ok (.istore 5, 2) := by decide +kernel
theorem dX13_readNumber_44 : decode cX13_readNumber 44 = .ok (.aload_n 0, 1) := by decide +kernel
theorem dX13_readNumber_45 : decode cX13_readNumber 45 = .ok (.aload_n 0, 1) := by decide +kernel
theorem dX13_readNumber_46 : decode cX13_readNumber 46 = .ok (.getfield 202, 3) := by decide +kernel
theorem dX13_readNumber_49 : decode cX13_readNumber 49 = .ok (.invokevirtual 212, 3) := by decide +kernel
theorem dX13_readNumber_52 : decode cX13_readNumber 52 = .ok (.bipush 48, 2) := by decide +kernel
theorem dX13_readNumber_54 : decode cX13_readNumber 54 = .ok (.if_icmp .ne 19, 3) := by decide +kernel
theorem dX13_readNumber_57 : decode cX13_readNumber 57 = .ok (.iload_n 3, 1) := by decide +kernel
theorem dX13_readNumber_58 : decode cX13_readNumber 58 = .ok (.ifCond .ne 15, 3) := by decide +kernel
theorem dX13_readNumber_61 : decode cX13_readNumber 61 = .ok (.aload_n 0, 1) := by decide +kernel
theorem dX13_readNumber_62 : decode cX13_readNumber 62 = .ok (.dup, 1) := by decide +kernel
theorem dX13_readNumber_63 : decode cX13_readNumber 63 = .ok (.getfield 202, 3) := by decide +kernel
theorem dX13_readNumber_66 : decode cX13_readNumber 66 = .ok (.iconst 1, 1) := by decide +kernel
theorem dX13_readNumber_67 : decode cX13_readNumber 67 = .ok (.iadd, 1) := by decide +kernel
theorem dX13_readNumber_68 : decode cX13_readNumber 68 = .ok (.putfield 202, 3) := by decide +kernel
theorem dX13_readNumber_71 : decode cX13_readNumber 71 = .ok (.iconst 0, 1) := by decide +kernel
theorem dX13_readNumber_72 : decode cX13_readNumber 72 = .ok (.ireturn, 1) := by decide +kernel
theorem dX13_readNumber_73 : decode cX13_readNumber 73 = .ok (.aload_n 0, 1) := by decide +kernel
theorem dX13_readNumber_74 : decode cX13_readNumber 74 = .ok (.aload_n 0, 1) := by decide +kernel
theorem dX13_readNumber_75 : decode cX13_readNumber 75 = .ok (.getfield 202, 3) := by decide +kernel
theorem dX13_readNumber_78 : decode cX13_readNumber 78 = .ok (.invokevirtual 212, 3) := by decide +kernel
theorem dX13_readNumber_81 : decode cX13_readNumber 81 = .ok (.invokestatic 231, 3) := by decide +kernel
theorem dX13_readNumber_84 : decode cX13_readNumber 84 = .ok (.ifCond .eq 16, 3) := by decide +kernel
theorem dX13_readNumber_87 : decode cX13_readNumber 87 = .ok (.aload_n 0, 1) := by decide +kernel
theorem dX13_readNumber_88 : decode cX13_readNumber 88 = .ok (.aload_n 0, 1) := by decide +kernel
theorem dX13_readNumber_89 : decode cX13_readNumber 89 = .ok (.getfield 202, 3) := by decide +kernel
theorem dX13_readNumber_92 : decode cX13_readNumber 92 = .ok (.invokevirtual 212, 3) := by decide +kernel
theorem dX13_readNumber_95 : decode cX13_readNumber 95 = .ok (.bipush 48, 2) := by decide +kernel
theorem dX13_readNumber_97 : decode cX13_readNumber 97 = .ok (.if_icmp .ne 11, 3) := by decide +kernel
theorem dX13_readNumber_100 : decode cX13_readNumber 100 = .ok (.aload_n 0, 1) := by decide +kernel
theorem dX13_readNumber_101 : decode cX13_readNumber 101 = .ok (.aload_n 0, 1) := by decide +kernel
theorem dX13_readNumber_102 : decode cX13_readNumber 102 = .ok (.getfield 202, 3) := by decide +kernel
theorem dX13_readNumber_105 : decode cX13_readNumber 105 = .ok (.invokevirtual 216, 3) := by decide +kernel
theorem dX13_readNumber_108 : decode cX13_readNumber 108 = .ok (.aload_n 0, 1) := by decide +kernel
theorem dX13_readNumber_109 : decode cX13_readNumber 109 = .ok (.invokevirtual 208, 3) := by decide +kernel
theorem dX13_readNumber_112 : decode cX13_readNumber 112 = .ok (.ifCond .eq 74, 3) := by decide +kernel
theorem dX13_readNumber_115 : decode cX13_readNumber 115 = .ok (.aload_n 0, 1) := by decide +kernel
theorem dX13_readNumber_116 : decode cX13_readNumber 116 = .ok (.aload_n 0, 1) := by decide +kernel
theorem dX13_readNumber_117 : decode cX13_readNumber 117 = .ok (.getfield 202, 3) := by decide +kernel
theorem dX13_readNumber_120 : decode cX13_readNumber 120 = .ok (.invokevirtual 212, 3) := by decide +kernel
theorem dX13_readNumber_123 : decode cX13_readNumber 123 = .ok (.invokestatic 231, 3) := by decide +kernel
theorem dX13_readNumber_126 : decode cX13_readNumber 126 = .ok (.ifCond .eq 60, 3) := by decide +kernel
theorem dX13_readNumber_129 : decode cX13_readNumber 129 = .ok (.iload 5, 2) := by decide +kernel
theorem dX13_readNumber_131 : decode cX13_readNumber 131 = .ok (.iload_n 1, 1) := by decide +kernel
theorem dX13_readNumber_132 : decode cX13_readNumber 132 = .ok (.if_icmp .ne 8, 3) := by decide +kernel
theorem dX13_readNumber_135 : decode cX13_readNumber 135 = .ok (.aload_n 0, 1) := by decide +kernel
theorem dX13_readNumber_136 : decode cX13_readNumber 136 = .ok (.iload_n 2, 1) := by decide +kernel
theorem dX13_readNumber_137 : decode cX13_readNumber 137 = .ok (.invokevirtual 216, 3) := by decide +kernel
theorem dX13_readNumber_140 : decode cX13_readNumber 140 = .ok (.iload 5, 2) := by decide +kernel
theorem dX13_readNumber_142 : decode cX13_readNumber 142 = .ok (.iload_n 1, 1) := by decide +kernel
theorem dX13_readNumber_143 : decode cX13_readNumber 143 = .ok (.if_icmp .ge 23, 3) := by decide +kernel
theorem dX13_readNumber_146 : decode cX13_readNumber 146 = .ok (.bipush 10, 2) := by decide +kernel
theorem dX13_readNumber_148 : decode cX13_readNumber 148 = .ok (.iload 4, 2) := by decide +kernel
theorem dX13_readNumber_150 : decode cX13_readNumber 150 = .ok (.imul, 1) := by decide +kernel
theorem dX13_readNumber_151 : decode cX13_readNumber 151 = .ok (.aload_n 0, 1) := by decide +kernel
theorem dX13_readNumber_152 : decode cX13_readNumber 152 = .ok (.aload_n 0, 1) := by decide +kernel
theorem dX13_readNumber_153 : decode cX13_readNumber 153 = .ok (.getfield 202, 3) := by decide +kernel
theorem dX13_readNumber_156 : decode cX13_readNumber 156 = .ok (.invokevirtual 212, 3) := by decide +kernel
theorem dX13_readNumber_159 : decode cX13_readNumber 159 = .ok (.iadd, 1) := by decide +kernel
theorem dX13_readNumber_160 : decode cX13_readNumber 160 = .ok (.bipush 48, 2) := by decide +kernel
theorem dX13_readNumber_162 : decode cX13_readNumber 162 = .ok (.isub, 1) := by decide +kernel
theorem dX13_readNumber_163 : decode cX13_readNumber 163 = .ok (.goto 5, 3) := by decide +kernel
theorem dX13_readNumber_166 : decode cX13_readNumber 166 = .ok (.iload 4, 2) := by decide +kernel
theorem dX13_readNumber_168 : decode cX13_readNumber 168 = .ok (.istore 4, 2) := by decide +kernel
theorem dX13_readNumber_170 : decode cX13_readNumber 170 = .ok (.iinc 5 1, 3) := by decide +kernel
theorem dX13_readNumber_173 : decode cX13_readNumber 173 = .ok (.aload_n 0, 1) := by decide +kernel
theorem dX13_readNumber_174 : decode cX13_readNumber 174 = .ok (.dup, 1) := by decide +kernel
theorem dX13_readNumber_175 : decode cX13_readNumber 175 = .ok (.getfield 202, 3) := by decide +kernel
theorem dX13_readNumber_178 : decode cX13_readNumber 178 = .ok (.iconst 1, 1) := by decide +kernel
theorem dX13_readNumber_179 : decode cX13_readNumber 179 = .ok (.iadd, 1) := by decide +kernel
theorem dX13_readNumber_180 : decode cX13_readNumber 180 = .ok (.putfield 202, 3) := by decide +kernel
theorem dX13_readNumber_183 : decode cX13_readNumber 183 = .ok (.goto (-75), 3) := by decide +kernel
theorem dX13_readNumber_186 : decode cX13_readNumber 186 = .ok (.iload_n 3, 1) := by decide +kernel
theorem dX13_readNumber_187 : decode cX13_readNumber 187 = .ok (.ifCond .eq 9, 3) := by decide +kernel
theorem dX13_readNumber_190 : decode cX13_readNumber 190 = .ok (.iload 4, 2) := by decide +kernel
theorem dX13_readNumber_192 : decode cX13_readNumber 192 = .ok (.ineg, 1) := by decide +kernel
theorem dX13_readNumber_193 : decode cX13_readNumber 193 = .ok (.goto 5, 3) := by decide +kernel
theorem dX13_readNumber_196 : decode cX13_readNumber 196 = .ok (.iload 4, 2) := by decide +kernel
theorem dX13_readNumber_198 : decode cX13_readNumber 198 = .ok (.ireturn, 1) := by decide +kernel
theorem dX13_blanks_0 : decode cX13_blanks 0 = .ok (.aload_n 0, 1) := by decide +kernel
theorem dX13_blanks_1 : decode cX13_blanks 1 = .ok (.aload_n 0, 1) := by decide +kernel
theorem dX13_blanks_2 : decode cX13_blanks 2 = .ok (.getfield 202, 3) := by decide +kernel
theorem dX13_blanks_5 : decode cX13_blanks 5 = .ok (.invokevirtual 212, 3) := by decide +kernel
theorem dX13_blanks_8 : decode cX13_blanks 8 = .ok (.bipush 32, 2) := by decide +kernel
theorem dX13_blanks_10 : decode cX13_blanks 10 = .ok (.if_icmp .ne 16, 3) := by decide +kernel
theorem dX13_blanks_13 : decode cX13_blanks 13 = .ok (.aload_n 0, 1) := by decide +kernel
theorem dX13_blanks_14 : decode cX13_blanks 14 = .ok (.dup, 1) := by decide +kernel
theorem dX13_blanks_15 : decode cX13_blanks 15 = .ok (.getfield 202, 3) := by decide +kernel
theorem dX13_blanks_18 : decode cX13_blanks 18 = .ok (.iconst 1, 1) := by decide +kernel
theorem dX13_blanks_19 : decode cX13_blanks 19 = .ok (.iadd, 1) := by decide +kernel
theorem dX13_blanks_20 : decode cX13_blanks 20 = .ok (.putfield 202, 3) := by decide +kernel
theorem dX13_blanks_23 : decode cX13_blanks 23 = .ok (.goto (-23), 3) := by decide +kernel
theorem dX13_blanks_26 : decode cX13_blanks 26 = .ok (.return_, 1) := by decide +kernel
theorem dX13_top_0 : decode cX13_top 0 = .ok (.aload_n 0, 1) := by decide +kernel
theorem dX13_top_1 : decode cX13_top 1 = .ok (.getfield 235, 3) := by decide +kernel
theorem dX13_top_4 : decode cX13_top 4 = .ok (.ifCond .ne 7, 3) := by decide +kernel
theorem dX13_top_7 : decode cX13_top 7 = .ok (.iconst (-1), 1) := by decide +kernel
theorem dX13_top_8 : decode cX13_top 8 = .ok (.goto 14, 3) := by decide +kernel
theorem dX13_top_11 : decode cX13_top 11 = .ok (.aload_n 0, 1) := by decide +kernel
theorem dX13_top_12 : decode cX13_top 12 = .ok (.getfield 48, 3) := by decide +kernel
theorem dX13_top_15 : decode cX13_top 15 = .ok (.aload_n 0, 1) := by decide +kernel
theorem dX13_top_16 : decode cX13_top 16 = .ok (.getfield 235, 3) := by decide +kernel
theorem dX13_top_19 : decode cX13_top 19 = .ok (.iconst 1, 1) := by decide +kernel
theorem dX13_top_20 : decode cX13_top 20 = .ok (.isub, 1) := by decide +kernel
theorem dX13_top_21 : decode cX13_top 21 = .ok (.iaload, 1) := by decide +kernel
theorem dX13_top_22 : decode cX13_top 22 = .ok (.ireturn, 1) := by decide +kernel
theorem dX13_finish_0 : decode cX13_finish 0 = .ok (.aload_n 0, 1) := by decide +kernel
theorem dX13_finish_1 : decode cX13_finish 1 = .ok (.getfield 36, 3) := by decide +kernel
theorem dX13_finish_4 : decode cX13_finish 4 = .ok (.iload_n 1, 1) := by decide +kernel
theorem dX13_finish_5 : decode cX13_finish 5 = .ok (.aload_n 0, 1) := by decide +kernel
theorem dX13_finish_6 : decode cX13_finish 6 = .ok (.getfield 202, 3) := by decide +kernel
theorem dX13_finish_9 : decode cX13_finish 9 = .ok (.iastore, 1) := by decide +kernel
theorem dX13_finish_10 : decode cX13_finish 10 = .ok (.aload_n 0, 1) := by decide +kernel
theorem dX13_finish_11 : decode cX13_finish 11 = .ok (.getfield 30, 3) := by decide +kernel
theorem dX13_finish_14 : decode cX13_finish 14 = .ok (.iload_n 1, 1) := by decide +kernel
theorem dX13_finish_15 : decode cX13_finish 15 = .ok (.aload_n 0, 1) := by decide +kernel
theorem dX13_finish_16 : decode cX13_finish 16 = .ok (.getfield 238, 3) := by decide +kernel
theorem dX13_finish_19 : decode cX13_finish 19 = .ok (.iconst 1, 1) := by decide +kernel
theorem dX13_finish_20 : decode cX13_finish 20 = .ok (.isub, 1) := by decide +kernel
theorem dX13_finish_21 : decode cX13_finish 21 = .ok (.iastore, 1) := by decide +kernel
theorem dX13_finish_22 : decode cX13_finish 22 = .ok (.return_, 1) := by decide +kernel
theorem dX13_readValue_0 : decode cX13_readValue 0 = .ok (.aload_n 0, 1) := by decide +kernel
theorem dX13_readValue_1 : decode cX13_readValue 1 = .ok (.getfield 238, 3) := by decide +kernel
theorem dX13_readValue_4 : decode cX13_readValue 4 = .ok (.bipush 40, 2) := by decide +kernel
theorem dX13_readValue_6 : decode cX13_readValue 6 = .ok (.if_icmp .ne 12, 3) := by decide +kernel
theorem dX13_readValue_9 : decode cX13_readValue 9 = .ok (.aload_n 0, 1) := by decide +kernel
theorem dX13_readValue_10 : decode cX13_readValue 10 = .ok (.aload_n 0, 1) := by decide +kernel
theorem dX13_readValue_11 : decode cX13_readValue 11 = .ok (.getfield 202, 3) := by decide +kernel
theorem dX13_readValue_14 : decode cX13_readValue 14 = .ok (.invokevirtual 216, 3) := by decide +kernel
theorem dX13_readValue_17 : decode cX13_readValue 17 = .ok (.return_, 1) := by decide +kernel
theorem dX13_readValue_18 : decode cX13_readValue 18 = .ok (.aload_n 0, 1) := by decide +kernel
theorem dX13_readValue_19 : decode cX13_readValue 19 = .ok (.getfield 238, 3) := by decide +kernel
theorem dX13_readValue_22 : decode cX13_readValue 22 = .ok (.istore_n 1, 1) := by decide +kernel
theorem dX13_readValue_23 : decode cX13_readValue 23 = .ok (.aload_n 0, 1) := by decide +kernel
theorem dX13_readValue_24 : decode cX13_readValue 24 = .ok (.aload_n 0, 1) := by decide +kernel
theorem dX13_readValue_25 : decode cX13_readValue 25 = .ok (.getfield 202, 3) := by decide +kernel
theorem dX13_readValue_28 : decode cX13_readValue 28 = .ok (.invokevirtual 212, 3) := by decide +kernel
theorem dX13_readValue_31 : decode cX13_readValue 31 = .ok (.istore_n 2, 1) := by decide +kernel
theorem dX13_readValue_32 : decode cX13_readValue 32 = .ok (.iload_n 2, 1) := by decide +kernel
theorem dX13_readValue_33 : decode cX13_readValue 33 = .ok (.bipush 91, 2) := by decide +kernel
theorem dX13_readValue_35 : decode cX13_readValue 35 = .ok (.if_icmp .eq 9, 3) := by decide +kernel
theorem dX13_readValue_38 : decode cX13_readValue 38 = .ok (.iload_n 2, 1) := by decide +kernel
theorem dX13_readValue_39 : decode cX13_readValue 39 = .ok (.bipush 123, 2) := by decide +kernel
theorem dX13_readValue_41 : decode cX13_readValue 41 = .ok (.if_icmp .ne 7, 3) := by decide +kernel
theorem dX13_readValue_44 : decode cX13_readValue 44 = .ok (.iconst 1, 1) := by decide +kernel
theorem dX13_readValue_45 : decode cX13_readValue 45 = .ok (.goto 4, 3) := by decide +kernel
theorem dX13_readValue_48 : decode cX13_readValue 48 = .ok (.iconst 0, 1) := by decide +kernel
theorem dX13_readValue_49 : decode cX13_readValue 49 = .ok (.istore_n 3, 1) := by decide +kernel
theorem dX13_readValue_50 : decode cX13_readValue 50 = .ok (.iload_n 3, 1) := by decide +kernel
theorem dX13_readValue_51 : decode cX13_readValue 51 = .ok (.ifCond .eq 21, 3) := by decide +kernel
theorem dX13_readValue_54 : decode cX13_readValue 54 = .ok (.aload_n 0, 1) := by decide +kernel
theorem dX13_readValue_55 : decode cX13_readValue 55 = .ok (.getfield 235, 3) := by decide +kernel
theorem dX13_readValue_58 : decode cX13_readValue 58 = .ok (.bipush 6, 2) := by decide +kernel
theorem dX13_readValue_60 : decode cX13_readValue 60 = .ok (.if_icmp .ne 12, 3) := by decide +kernel
theorem dX13_readValue_63 : decode cX13_readValue 63 = .ok (.aload_n 0, 1) := by decide +kernel
theorem dX13_readValue_64 : decode cX13_readValue 64 = .ok (.aload_n 0, 1) := by decide +kernel
theorem dX13_readValue_65 : decode cX13_readValue 65 = .ok (.getfield 202, 3) := by decide +kernel
theorem dX13_readValue_68 : decode cX13_readValue 68 = .ok (.invokevirtual 216, 3) := by decide +kernel
theorem dX13_readValue_71 : decode cX13_readValue 71 = .ok (.return_, 1) := by decide +kernel
theorem dX13_readValue_72 : decode cX13_readValue 72 = .ok (.aload_n 0, 1) := by decide +kernel
theorem dX13_readValue_73 : decode cX13_readValue 73 = .ok (.getfield 27, 3) := by decide +kernel
theorem dX13_readValue_76 : decode cX13_readValue 76 = .ok (.iload_n 1, 1) := by decide +kernel
theorem dX13_readValue_77 : decode cX13_readValue 77 = .ok (.aload_n 0, 1) := by decide +kernel
theorem dX13_readValue_78 : decode cX13_readValue 78 = .ok (.invokevirtual 241, 3) := by decide +kernel
theorem dX13_readValue_81 : decode cX13_readValue 81 = .ok (.iastore, 1) := by decide +kernel
theorem dX13_readValue_82 : decode cX13_readValue 82 = .ok (.aload_n 0, 1) := by decide +kernel
theorem dX13_readValue_83 : decode cX13_readValue 83 = .ok (.getfield 33, 3) := by decide +kernel
theorem dX13_readValue_86 : decode cX13_readValue 86 = .ok (.iload_n 1, 1) := by decide +kernel
theorem dX13_readValue_87 : decode cX13_readValue 87 = .ok (.aload_n 0, 1) := by decide +kernel
theorem dX13_readValue_88 : decode cX13_readValue 88 = .ok (.getfield 202, 3) := by decide +kernel
theorem dX13_readValue_91 : decode cX13_readValue 91 = .ok (.iastore, 1) := by decide +kernel
theorem dX13_readValue_92 : decode cX13_readValue 92 = .ok (.aload_n 0, 1) := by decide +kernel
theorem dX13_readValue_93 : decode cX13_readValue 93 = .ok (.getfield 42, 3) := by decide +kernel
theorem dX13_readValue_96 : decode cX13_readValue 96 = .ok (.iload_n 1, 1) := by decide +kernel
theorem dX13_readValue_97 : decode cX13_readValue 97 = .ok (.aload_n 0, 1) := by decide +kernel
theorem dX13_readValue_98 : decode cX13_readValue 98 = .ok (.getfield 245, 3) := by decide +kernel
theorem dX13_readValue_101 : decode cX13_readValue 101 = .ok (.iastore, 1) := by decide +kernel
theorem dX13_readValue_102 : decode cX13_readValue 102 = .ok (.aload_n 0, 1) := by decide +kernel
theorem dX13_readValue_103 : decode cX13_readValue 103 = .ok (.getfield 45, 3) := by decide +kernel
theorem dX13_readValue_106 : decode cX13_readValue 106 = .ok (.iload_n 1, 1) := by decide +kernel
theorem dX13_readValue_107 : decode cX13_readValue 107 = .ok (.aload_n 0, 1) := by decide +kernel
theorem dX13_readValue_108 : decode cX13_readValue 108 = .ok (.getfield 248, 3) := by decide +kernel
theorem dX13_readValue_111 : decode cX13_readValue 111 = .ok (.iastore, 1) := by decide +kernel
theorem dX13_readValue_112 : decode cX13_readValue 112 = .ok (.aload_n 0, 1) := by decide +kernel
theorem dX13_readValue_113 : decode cX13_readValue 113 = .ok (.iconst (-1), 1) := by decide +kernel
theorem dX13_readValue_114 : decode cX13_readValue 114 = .ok (.putfield 245, 3) := by decide +kernel
theorem dX13_readValue_117 : decode cX13_readValue 117 = .ok (.aload_n 0, 1) := by decide +kernel
theorem dX13_readValue_118 : decode cX13_readValue 118 = .ok (.iconst 0, 1) := by decide +kernel
theorem dX13_readValue_119 : decode cX13_readValue 119 = .ok (.putfield 248, 3) := by decide +kernel
theorem dX13_readValue_122 : decode cX13_readValue 122 = .ok (.aload_n 0, 1) := by decide +kernel
theorem dX13_readValue_123 : decode cX13_readValue 123 = .ok (.getfield 39, 3) := by decide +kernel
theorem dX13_readValue_126 : decode cX13_readValue 126 = .ok (.iload_n 1, 1) := by decide +kernel
theorem dX13_readValue_127 : decode cX13_readValue 127 = .ok (.iconst 0, 1) := by decide +kernel
theorem dX13_readValue_128 : decode cX13_readValue 128 = .ok (.iastore, 1) := by decide +kernel
theorem dX13_readValue_129 : decode cX13_readValue 129 = .ok (.iload_n 3, 1) := by decide +kernel
theorem dX13_readValue_130 : decode cX13_readValue 130 = .ok (.ifCond .eq 62, 3) := by decide +kernel
theorem dX13_readValue_133 : decode cX13_readValue 133 = .ok (.aload_n 0, 1) := by decide +kernel
theorem dX13_readValue_134 : decode cX13_readValue 134 = .ok (.getfield 23, 3) := by decide +kernel
theorem dX13_readValue_137 : decode cX13_readValue 137 = .ok (.iload_n 1, 1) := by decide +kernel
theorem dX13_readValue_138 : decode cX13_readValue 138 = .ok (.iload_n 2, 1) := by decide +kernel
theorem dX13_readValue_139 : decode cX13_readValue 139 = .ok (.bipush 91, 2) := by decide +kernel
theorem dX13_readValue_141 : decode cX13_readValue 141 = .ok (.if_icmp .ne 7, 3) := by decide +kernel
theorem dX13_readValue_144 : decode cX13_readValue 144 = .ok (.iconst 5, 1) := by decide +kernel
theorem dX13_readValue_145 : decode cX13_readValue 145 = .ok (.goto 5, 3) := by decide +kernel
theorem dX13_readValue_148 : decode cX13_readValue 148 = .ok (.bipush 6, 2) := by decide +kernel
theorem dX13_readValue_150 : decode cX13_readValue 150 = .ok (.iastore, 1) := by decide +kernel
theorem dX13_readValue_151 : decode cX13_readValue 151 = .ok (.aload_n 0, 1) := by decide +kernel
theorem dX13_readValue_152 : decode cX13_readValue 152 = .ok (.dup, 1) := by decide +kernel
theorem dX13_readValue_153 : decode cX13_readValue 153 = .ok (.getfield 238, 3) := by decide +kernel
theorem dX13_readValue_156 : decode cX13_readValue 156 = .ok (.iconst 1, 1) := by decide +kernel
theorem dX13_readValue_157 : decode cX13_readValue 157 = .ok (.iadd, 1) := by decide +kernel
theorem dX13_readValue_158 : decode cX13_readValue 158 = .ok (.putfield 238, 3) := by decide +kernel
theorem dX13_readValue_161 : decode cX13_readValue 161 = .ok (.aload_n 0, 1) := by decide +kernel
theorem dX13_readValue_162 : decode cX13_readValue 162 = .ok (.getfield 48, 3) := by decide +kernel
theorem dX13_readValue_165 : decode cX13_readValue 165 = .ok (.aload_n 0, 1) := by decide +kernel
theorem dX13_readValue_166 : decode cX13_readValue 166 = .ok (.getfield 235, 3) := by decide +kernel
theorem dX13_readValue_169 : decode cX13_readValue 169 = .ok (.iload_n 1, 1) := by decide +kernel
theorem dX13_readValue_170 : decode cX13_readValue 170 = .ok (.iastore, 1) := by decide +kernel
theorem dX13_readValue_171 : decode cX13_readValue 171 = .ok (.aload_n 0, 1) := by decide +kernel
theorem dX13_readValue_172 : decode cX13_readValue 172 = .ok (.dup, 1) := by decide +kernel
theorem dX13_readValue_173 : decode cX13_readValue 173 = .ok (.getfield 235, 3) := by decide +kernel
theorem dX13_readValue_176 : decode cX13_readValue 176 = .ok (.iconst 1, 1) := by decide +kernel
theorem dX13_readValue_177 : decode cX13_readValue 177 = .ok (.iadd, 1) := by decide +kernel
theorem dX13_readValue_178 : decode cX13_readValue 178 = .ok (.putfield 235, 3) := by decide +kernel
theorem dX13_readValue_181 : decode cX13_readValue 181 = .ok (.aload_n 0, 1) := by decide +kernel
theorem dX13_readValue_182 : decode cX13_readValue 182 = .ok (.dup, 1) := by decide +kernel
theorem dX13_readValue_183 : decode cX13_readValue 183 = .ok (.getfield 202, 3) := by decide +kernel
theorem dX13_readValue_186 : decode cX13_readValue 186 = .ok (.iconst 1, 1) := by decide +kernel
theorem dX13_readValue_187 : decode cX13_readValue 187 = .ok (.iadd, 1) := by decide +kernel
theorem dX13_readValue_188 : decode cX13_readValue 188 = .ok (.putfield 202, 3) := by decide +kernel
theorem dX13_readValue_191 : decode cX13_readValue 191 = .ok (.return_, 1) := by decide +kernel
theorem dX13_readValue_192 : decode cX13_readValue 192 = .ok (.iload_n 2, 1) := by decide +kernel
theorem dX13_readValue_193 : decode cX13_readValue 193 = .ok (.bipush 34, 2) := by decide +kernel
theorem dX13_readValue_195 : decode cX13_readValue 195 = .ok (.if_icmp .ne 31, 3) := by decide +kernel
theorem dX13_readValue_198 : decode cX13_readValue 198 = .ok (.aload_n 0, 1) := by decide +kernel
theorem dX13_readValue_199 : decode cX13_readValue 199 = .ok (.getfield 23, 3) := by decide +kernel
theorem dX13_readValue_202 : decode cX13_readValue 202 = .ok (.iload_n 1, 1) := by decide +kernel
theorem dX13_readValue_203 : decode cX13_readValue 203 = .ok (.iconst 4, 1) := by decide +kernel
theorem dX13_readValue_204 : decode cX13_readValue 204 = .ok (.iastore, 1) := by decide +kernel
theorem dX13_readValue_205 : decode cX13_readValue 205 = .ok (.aload_n 0, 1) := by decide +kernel
theorem dX13_readValue_206 : decode cX13_readValue 206 = .ok (.bipush 34, 2) := by decide +kernel
theorem dX13_readValue_208 : decode cX13_readValue 208 = .ok (.bipush 92, 2) := by decide +kernel
theorem dX13_readValue_210 : decode cX13_readValue 210 = .ok (.invokevirtual 251, 3) := by decide +kernel
theorem dX13_readValue_213 : decode cX13_readValue 213 = .ok (.aload_n 0, 1) := by decide +kernel
theorem dX13_readValue_214 : decode cX13_readValue 214 = .ok (.getfield 39, 3) := by decide +kernel
theorem dX13_readValue_217 : decode cX13_readValue 217 = .ok (.iload_n 1, 1) := by decide +kernel
theorem dX13_readValue_218 : decode cX13_readValue 218 = .ok (.aload_n 0, 1) := by decide +kernel
theorem dX13_readValue_219 : decode cX13_readValue 219 = .ok (.getfield 228, 3) := by decide +kernel
theorem dX13_readValue_222 : decode cX13_readValue 222 = .ok (.iastore, 1) := by decide +kernel
theorem dX13_readValue_223 : decode cX13_readValue 223 = .ok (.goto 118, 3) := by decide +kernel
theorem dX13_readValue_226 : decode cX13_readValue 226 = .ok (.iload_n 2, 1) := by decide +kernel
theorem dX13_readValue_227 : decode cX13_readValue 227 = .ok (.bipush 45, 2) := by decide +kernel
theorem dX13_readValue_229 : decode cX13_readValue 229 = .ok (.if_icmp .eq 10, 3) := by decide +kernel
theorem dX13_readValue_232 : decode cX13_readValue 232 = .ok (.iload_n 2, 1) := by decide +kernel
theorem dX13_readValue_233 : decode cX13_readValue 233 = .ok (.invokestatic 231, 3) := by decide +kernel
theorem dX13_readValue_236 : decode cX13_readValue 236 = .ok (.ifCond .eq 25, 3) := by decide +kernel
theorem dX13_readValue_239 : decode cX13_readValue 239 = .ok (.aload_n 0, 1) := by decide +kernel
theorem dX13_readValue_240 : decode cX13_readValue 240 = .ok (.getfield 23, 3) := by decide +kernel
theorem dX13_readValue_243 : decode cX13_readValue 243 = .ok (.iload_n 1, 1) := by decide +kernel
theorem dX13_readValue_244 : decode cX13_readValue 244 = .ok (.iconst 3, 1) := by decide +kernel
theorem dX13_readValue_245 : decode cX13_readValue 245 = .ok (.iastore, 1) := by decide +kernel
theorem dX13_readValue_246 : decode cX13_readValue 246 = .ok (.aload_n 0, 1) := by decide +kernel
theorem dX13_readValue_247 : decode cX13_readValue 247 = .ok (.getfield 39, 3) := by decide +kernel
theorem dX13_readValue_250 : decode cX13_readValue 250 = .ok (.iload_n 1, 1) := by decide +kernel
theorem dX13_readValue_251 : decode cX13_readValue 251 = .ok (.aload_n 0, 1) := by decide +kernel
theorem dX13_readValue_252 : decode cX13_readValue 252 = .ok (.bipush 6, 2) := by decide +kernel
theorem dX13_readValue_254 : decode cX13_readValue 254 = .ok (.invokevirtual 255, 3) := by decide +kernel
theorem dX13_readValue_257 : decode cX13_readValue 257 = .ok (.iastore, 1) := by decide +kernel
theorem dX13_readValue_258 : decode cX13_readValue 258 = .ok (.goto 83, 3) := by decide +kernel
theorem dX13_readValue_261 : decode cX13_readValue 261 = .ok (.iload_n 2, 1) := by decide +kernel
theorem dX13_readValue_262 : decode cX13_readValue 262 = .ok (.bipush 116, 2) := by decide +kernel
theorem dX13_readValue_264 : decode cX13_readValue 264 = .ok (.if_icmp .ne 21, 3) := by decide +kernel
theorem dX13_readValue_267 : decode cX13_readValue 267 = .ok (.aload_n 0, 1) := by decide +kernel
theorem dX13_readValue_268 : decode cX13_readValue 268 = .ok (.getfield 23, 3) := by decide +kernel
theorem dX13_readValue_271 : decode cX13_readValue 271 = .ok (.iload_n 1, 1) := by decide +kernel
theorem dX13_readValue_272 : decode cX13_readValue 272 = .ok (.iconst 2, 1) := by decide +kernel
theorem dX13_readValue_273 : decode cX13_readValue 273 = .ok (.iastore, 1) := by decide +kernel
theorem dX13_readValue_274 : decode cX13_readValue 274 = .ok (.aload_n 0, 1) := by decide +kernel
theorem dX13_readValue_275 : decode cX13_readValue 275 = .ok (.ldc2_w 258, 3) := by decide +kernel
theorem dX13_readValue_278 : decode cX13_readValue 278 = .ok (.iconst 4, 1) := by decide +kernel
theorem dX13_readValue_279 : decode cX13_readValue 279 = .ok (.invokevirtual 260, 3) := by decide +kernel
theorem dX13_readValue_282 : decode cX13_readValue 282 = .ok (.goto 59, 3) := by decide +kernel
theorem dX13_readValue_285 : decode cX13_readValue 285 = .ok (.iload_n 2, 1) := by decide +kernel
theorem dX13_readValue_286 : decode cX13_readValue 286 = .ok (.bipush 102, 2) := by decide +kernel
theorem dX13_readValue_288 : decode cX13_readValue 288 = .ok (.if_icmp .ne 21, 3) := by decide +kernel
theorem dX13_readValue_291 : decode cX13_readValue 291 = .ok (.aload_n 0, 1) := by decide +kernel
theorem dX13_readValue_292 : decode cX13_readValue 292 = .ok (.getfield 23, 3) := by decide +kernel
theorem dX13_readValue_295 : decode cX13_readValue 295 = .ok (.iload_n 1, 1) := by decide +kernel
theorem dX13_readValue_296 : decode cX13_readValue 296 = .ok (.iconst 1, 1) := by decide +kernel
theorem dX13_readValue_297 : decode cX13_readValue 297 = .ok (.iastore, 1) := by decide +kernel
theorem dX13_readValue_298 : decode cX13_readValue 298 = .ok (.aload_n 0, 1) := by decide +kernel
theorem dX13_readValue_299 : decode cX13_readValue 299 = .ok (.ldc2_w 264, 3) := by decide +kernel
theorem dX13_readValue_302 : decode cX13_readValue 302 = .ok (.iconst 5, 1) := by decide +kernel
theorem dX13_readValue_303 : decode cX13_readValue 303 = .ok (.invokevirtual 260, 3) := by decide +kernel
theorem dX13_readValue_306 : decode cX13_readValue 306 = .ok (.goto 35, 3) := by decide +kernel
theorem dX13_readValue_309 : decode cX13_readValue 309 = .ok (.iload_n 2, 1) := by decide +kernel
theorem dX13_readValue_310 : decode cX13_readValue 310 = .ok (.bipush 110, 2) := by decide +kernel
theorem dX13_readValue_312 : decode cX13_readValue 312 = .ok (.if_icmp .ne 21, 3) := by decide +kernel
theorem dX13_readValue_315 : decode cX13_readValue 315 = .ok (.aload_n 0, 1) := by decide +kernel
theorem dX13_readValue_316 : decode cX13_readValue 316 = .ok (.getfield 23, 3) := by decide +kernel
theorem dX13_readValue_319 : decode cX13_readValue 319 = .ok (.iload_n 1, 1) := by decide +kernel
theorem dX13_readValue_320 : decode cX13_readValue 320 = .ok (.iconst 0, 1) := by decide +kernel
theorem dX13_readValue_321 : decode cX13_readValue 321 = .ok (.iastore, 1) := by decide +kernel
theorem dX13_readValue_322 : decode cX13_readValue 322 = .ok (.aload_n 0, 1) := by decide +kernel
theorem dX13_readValue_323 : decode cX13_readValue 323 = .ok (.ldc2_w 266, 3) := by decide +kernel
theorem dX13_readValue_326 : decode cX13_readValue 326 = .ok (.iconst 4, 1) := by decide +kernel
theorem dX13_readValue_327 : decode cX13_readValue 327 = .ok (.invokevirtual 260, 3) := by decide +kernel
theorem dX13_readValue_330 : decode cX13_readValue 330 = .ok (.goto 11, 3) := by decide +kernel
theorem dX13_readValue_333 : decode cX13_readValue 333 = .ok (.aload_n 0, 1) := by decide +kernel
theorem dX13_readValue_334 : decode cX13_readValue 334 = .ok (.aload_n 0, 1) := by decide +kernel
theorem dX13_readValue_335 : decode cX13_readValue 335 = .ok (.getfield 202, 3) := by decide +kernel
theorem dX13_readValue_338 : decode cX13_readValue 338 = .ok (.invokevirtual 216, 3) := by decide +kernel
theorem dX13_readValue_341 : decode cX13_readValue 341 = .ok (.aload_n 0, 1) := by decide +kernel
theorem dX13_readValue_342 : decode cX13_readValue 342 = .ok (.dup, 1) := by decide +kernel
theorem dX13_readValue_343 : decode cX13_readValue 343 = .ok (.getfield 238, 3) := by decide +kernel
theorem dX13_readValue_346 : decode cX13_readValue 346 = .ok (.iconst 1, 1) := by decide +kernel
theorem dX13_readValue_347 : decode cX13_readValue 347 = .ok (.iadd, 1) := by decide +kernel
theorem dX13_readValue_348 : decode cX13_readValue 348 = .ok (.putfield 238, 3) := by decide +kernel
theorem dX13_readValue_351 : decode cX13_readValue 351 = .ok (.aload_n 0, 1) := by decide +kernel
theorem dX13_readValue_352 : decode cX13_readValue 352 = .ok (.iload_n 1, 1) := by decide +kernel
theorem dX13_readValue_353 : decode cX13_readValue 353 = .ok (.invokevirtual 268, 3) := by decide +kernel
theorem dX13_readValue_356 : decode cX13_readValue 356 = .ok (.return_, 1) := by decide +kernel
def mo_thrown (S : md_S) : Option (Int32 × md_S) :=
  some ((S.1 0), S)
theorem ro_thrown {l : Launch} {G : mv_G} {B : mv_H} {m d : Nat} (hG : mv_ok G) (hm : G.2.2.1 ≤ m) {S : md_S} {q : (Int32 × md_S)} (hq : mo_thrown S = some q) : mv_rq l G mX13_thrown d 0 (mv_in [.ref m] 1) [] (md_H G B m S) (md_Q G B m q) := by
  unfold mo_thrown at hq
  show mv_rq l G mX13_thrown d 0 [some (.ref m)] [] (md_H G B m S) _
  refine q_aload_n dX13_thrown_0 rfl ?_
  refine r_geti 0 dX13_thrown_1 fl_RX13_193 (by decide) rfl ki_0 ?_
  obtain rfl := Option.some.inj hq
  exact q_iret (ty := .int) dX13_thrown_4 rfl rfl ⟨rfl, rfl⟩
def mo_type_j27 (S : md_S) : Option (Int32 × md_S) :=
  some (0, S)
theorem ro_type_j27 {l : Launch} {G : mv_G} {B : mv_H} {m d : Nat} (hG : mv_ok G) (hm : G.2.2.1 ≤ m) {S : md_S} {q : (Int32 × md_S)} (hq : mo_type_j27  S = some q) : mv_rq l G mX13_type d 27 [none, none] [] (md_H G B m S) (md_Q G B m q) := by
  unfold mo_type_j27 at hq
  refine q_iconst (v := 0) dX13_type_27 (by decide) ?_
  obtain rfl := Option.some.inj hq
  exact q_iret (ty := .boolean) dX13_type_28 rfl rfl ⟨rfl, rfl⟩
def mo_type (x1 : Int32) (S : md_S) : Option (Int32 × md_S) :=
  md_l (md_p S 0 0) fun S2 =>
  if x1 < 32 then
    mo_type_j27  S2
  else
    if 126 < x1 then
      mo_type_j27  S2
    else
      if (S2.1 2) = 160 then
        mo_type_j27  S2
      else
        if md_in (S2.1 2) 160 then
        md_l (md_w S2 1 (S2.1 2).toNatClampNeg (vp_nar .byte x1.toInt8.toInt32)) fun S39 =>
        md_l (md_p S39 2 ((S39.1 2) + 1)) fun S47 =>
        some (1, S47)
        else none
theorem ro_type {l : Launch} {G : mv_G} {B : mv_H} {m d : Nat} (hG : mv_ok G) (hm : G.2.2.1 ≤ m) {x1 : Int32} {S : md_S} {q : (Int32 × md_S)} (hq : mo_type x1 S = some q) : mv_rq l G mX13_type d 0 (mv_in [.ref m, .int x1] 2) [] (md_H G B m S) (md_Q G B m q) := by
  unfold mo_type at hq
  show mv_rq l G mX13_type d 0 [some (.ref m), some (.int x1)] [] (md_H G B m S) _
  refine q_aload_n dX13_type_0 rfl ?_
  refine q_iconst (v := 0) dX13_type_1 (by decide) ?_
  refine r_puti 0 .int dX13_type_2 fl_RX13_193 (by decide) rfl ki_0 rfl kp_0 rfl rfl hm (fun S2 e2 => ?_)
  have hq := md_l_e e2 hq
  clear e2
  show mv_rq l G mX13_type d 5 [some (.ref m), some (.int x1)] [] (md_H G B m S2) _
  refine q_iload_n dX13_type_5 rfl ?_
  refine q_bipush (v := 32) dX13_type_6 (by decide) ?_
  refine q_icmp_lt (tgt := 27) dX13_type_8 (by decide) (fun c8 => ?_) (fun c8 => ?_)
  ·
    have hq := md_pos c8 hq
    refine mv_weak (A := [none, none]) (by repeat' constructor) ?_
    exact ro_type_j27 hG hm hq
  ·
    have hq := md_neg c8 hq
    refine q_iload_n dX13_type_11 rfl ?_
    refine q_bipush (v := 126) dX13_type_12 (by decide) ?_
    refine q_icmp_gt (tgt := 27) dX13_type_14 (by decide) (fun c14 => ?_) (fun c14 => ?_)
    ·
      have hq := md_pos c14 hq
      refine mv_weak (A := [none, none]) (by repeat' constructor) ?_
      exact ro_type_j27 hG hm hq
    ·
      have hq := md_neg c14 hq
      refine q_aload_n dX13_type_17 rfl ?_
      refine r_geti 2 dX13_type_18 fl_RX13_196 (by decide) rfl ki_2 ?_
      refine q_sipush (v := 160) dX13_type_21 (by decide) ?_
      refine q_icmp_ne (tgt := 29) dX13_type_24 (by decide) (fun c24 => ?_) (fun c24 => ?_)
      ·
        have hq := md_neg c24 hq
        refine q_aload_n dX13_type_29 rfl ?_
        refine r_geta 1 dX13_type_30 fl_RX13_7 (by decide) rfl kk_1 ?_
        refine q_aload_n dX13_type_33 rfl ?_
        refine r_geti 2 dX13_type_34 fl_RX13_196 (by decide) rfl ki_2 ?_
        refine q_iload_n dX13_type_37 rfl ?_
        refine q_i2b dX13_type_38 ?_
        obtain ⟨g39, hq⟩ := md_g hq
        refine r_bast hG hm 1 dX13_type_39 kk_1 g39 (fun S39 e39 => ?_)
        have hq := md_l_e e39 hq
        clear e39
        show mv_rq l G mX13_type d 40 [some (.ref m), some (.int x1)] [] (md_H G B m S39) _
        refine q_aload_n dX13_type_40 rfl ?_
        refine q_dup dX13_type_41 rfl ?_
        refine r_geti 2 dX13_type_42 fl_RX13_196 (by decide) rfl ki_2 ?_
        refine q_iconst (v := 1) dX13_type_45 (by decide) ?_
        refine q_iadd dX13_type_46 ?_
        refine r_puti 2 .int dX13_type_47 fl_RX13_196 (by decide) rfl ki_2 rfl kp_2 rfl rfl hm (fun S47 e47 => ?_)
        have hq := md_l_e e47 hq
        clear e47
        show mv_rq l G mX13_type d 50 [some (.ref m), some (.int x1)] [] (md_H G B m S47) _
        refine q_iconst (v := 1) dX13_type_50 (by decide) ?_
        obtain rfl := Option.some.inj hq
        exact q_iret (ty := .boolean) dX13_type_51 rfl rfl ⟨rfl, rfl⟩
      ·
        have hq := md_pos c24 hq
        refine mv_weak (A := [none, none]) (by repeat' constructor) ?_
        exact ro_type_j27 hG hm hq
def mo_take_l2 (N : Nat) : Nat → Nat → Int32 → Int32 → md_S → Option md_S
  | 0, _, _, _, _ => none
  | n + 1, x1, x2, x3, S =>
    if x2 ≤ x3 then
      md_l (md_p S 5 x2) fun S24 =>
      md_l (md_p S24 6 0) fun S29 =>
      md_l (md_p S29 7 (-1)) fun S34 =>
      some S34
    else
      if md_k x1 = some (0, 160) then
      if md_in x3 160 then
      if md_in x3 160 then
      md_l (md_w S 4 x3.toNatClampNeg (vp_nar .byte (S.2 x1 x3.toNatClampNeg))) fun S15 =>
      mo_take_l2 N n x1 x2 (x3 + 1) S15
      else none
      else none
      else none
theorem ro_take_l2 {l : Launch} {G : mv_G} {B : mv_H} {m N d : Nat} (hG : mv_ok G) (hm : G.2.2.1 ≤ m) : ∀ n : Nat, ∀ {x1 : Nat} {x2 : Int32} {x3 : Int32} {S : md_S} {q : md_S}, mo_take_l2 N n x1 x2 x3 S = some q → mv_rq l G mX13_take d 2 [some (.ref m), some (.ref (m + md_ad x1)), some (.int x2), some (.int x3)] [] (md_H G B m S) (md_V G B m q)
  | 0, _, _, _, _, _, hq => nomatch hq
  | n + 1, x1, x2, x3, S, q, hq => by
    rw [mo_take_l2] at hq
    refine q_iload_n dX13_take_2 rfl ?_
    refine q_iload_n dX13_take_3 rfl ?_
    refine q_icmp_ge (tgt := 22) dX13_take_4 (by decide) (fun c4 => ?_) (fun c4 => ?_)
    ·
      have hq := md_pos c4 hq
      refine q_aload_n dX13_take_22 rfl ?_
      refine q_iload_n dX13_take_23 rfl ?_
      refine r_puti 5 .int dX13_take_24 fl_RX13_199 (by decide) rfl ki_5 rfl kp_5 rfl rfl hm (fun S24 e24 => ?_)
      have hq := md_l_e e24 hq
      clear e24
      show mv_rq l G mX13_take d 27 [some (.ref m), some (.ref (m + md_ad x1)), some (.int x2), some (.int x3)] [] (md_H G B m S24) _
      refine q_aload_n dX13_take_27 rfl ?_
      refine q_iconst (v := 0) dX13_take_28 (by decide) ?_
      refine r_puti 6 .int dX13_take_29 fl_RX13_202 (by decide) rfl ki_6 rfl kp_6 rfl rfl hm (fun S29 e29 => ?_)
      have hq := md_l_e e29 hq
      clear e29
      show mv_rq l G mX13_take d 32 [some (.ref m), some (.ref (m + md_ad x1)), some (.int x2), some (.int x3)] [] (md_H G B m S29) _
      refine q_aload_n dX13_take_32 rfl ?_
      refine q_iconst (v := (-1)) dX13_take_33 (by decide) ?_
      refine r_puti 7 .int dX13_take_34 fl_RX13_205 (by decide) rfl ki_7 rfl kp_7 rfl rfl hm (fun S34 e34 => ?_)
      have hq := md_l_e e34 hq
      clear e34
      show mv_rq l G mX13_take d 37 [some (.ref m), some (.ref (m + md_ad x1)), some (.int x2), some (.int x3)] [] (md_H G B m S34) _
      obtain rfl := Option.some.inj hq
      exact q_vret dX13_take_37 rfl ⟨rfl, rfl⟩
    ·
      have hq := md_neg c4 hq
      refine q_aload_n dX13_take_7 rfl ?_
      refine r_geta 4 dX13_take_8 fl_RX13_17 (by decide) rfl kk_4 ?_
      refine q_iload_n dX13_take_11 rfl ?_
      refine q_aload_n dX13_take_12 rfl ?_
      refine q_iload_n dX13_take_13 rfl ?_
      obtain ⟨k14, hq⟩ := md_g hq
      obtain ⟨g14, hq⟩ := md_g hq
      refine r_bald hG x1 dX13_take_14 k14 g14 ?_
      obtain ⟨g15, hq⟩ := md_g hq
      refine r_bast hG hm 4 dX13_take_15 kk_4 g15 (fun S15 e15 => ?_)
      have hq := md_l_e e15 hq
      clear e15
      show mv_rq l G mX13_take d 16 [some (.ref m), some (.ref (m + md_ad x1)), some (.int x2), some (.int x3)] [] (md_H G B m S15) _
      refine q_iinc dX13_take_16 rfl rfl ?_
      show mv_rq l G mX13_take d 19 [some (.ref m), some (.ref (m + md_ad x1)), some (.int x2), some (.int (x3 + 1))] [] (md_H G B m S15) _
      refine q_goto (tgt := 2) dX13_take_19 (by decide) ?_
      refine mv_weak (A := [some (.ref m), some (.ref (m + md_ad x1)), some (.int x2), some (.int (x3 + 1))]) (by repeat' constructor) ?_
      exact ro_take_l2 hG hm n hq
def mo_take (N : Nat) (x1 : Nat) (x2 : Int32) (S : md_S) : Option md_S :=
  mo_take_l2 N N x1 x2 0 S
theorem ro_take {l : Launch} {G : mv_G} {B : mv_H} {m N d : Nat} (hG : mv_ok G) (hm : G.2.2.1 ≤ m) {x1 : Nat} {x2 : Int32} {S : md_S} {q : md_S} (hq : mo_take N x1 x2 S = some q) : mv_rq l G mX13_take d 0 (mv_in [.ref m, .ref (m + md_ad x1), .int x2] 4) [] (md_H G B m S) (md_V G B m q) := by
  unfold mo_take at hq
  show mv_rq l G mX13_take d 0 [some (.ref m), some (.ref (m + md_ad x1)), some (.int x2), none] [] (md_H G B m S) _
  refine q_iconst (v := 0) dX13_take_0 (by decide) ?_
  refine q_istore_n dX13_take_1 (Nat.le_of_ble_eq_true rfl) rfl ?_
  show mv_rq l G mX13_take d 2 [some (.ref m), some (.ref (m + md_ad x1)), some (.int x2), some (.int 0)] [] (md_H G B m S) _
  refine mv_weak (A := [some (.ref m), some (.ref (m + md_ad x1)), some (.int x2), some (.int 0)]) (by repeat' constructor) ?_
  exact ro_take_l2 hG hm N hq
def mo_at_j18 (y0 : Int32) (S : md_S) : Option (Int32 × md_S) :=
  some (y0, S)
theorem ro_at_j18 {l : Launch} {G : mv_G} {B : mv_H} {m d : Nat} (hG : mv_ok G) (hm : G.2.2.1 ≤ m) {y0 : Int32} {S : md_S} {q : (Int32 × md_S)} (hq : mo_at_j18 y0 S = some q) : mv_rq l G mX13_at d 18 [none, none] [.int y0] (md_H G B m S) (md_Q G B m q) := by
  unfold mo_at_j18 at hq
  obtain rfl := Option.some.inj hq
  exact q_iret (ty := .int) dX13_at_18 rfl rfl ⟨rfl, rfl⟩
def mo_at (x1 : Int32) (S : md_S) : Option (Int32 × md_S) :=
  if (S.1 5) ≤ x1 then
    mo_at_j18 (-1) S
  else
    if md_in x1 160 then
    mo_at_j18 (S.2 4 x1.toNatClampNeg) S
    else none
theorem ro_at {l : Launch} {G : mv_G} {B : mv_H} {m d : Nat} (hG : mv_ok G) (hm : G.2.2.1 ≤ m) {x1 : Int32} {S : md_S} {q : (Int32 × md_S)} (hq : mo_at x1 S = some q) : mv_rq l G mX13_at d 0 (mv_in [.ref m, .int x1] 2) [] (md_H G B m S) (md_Q G B m q) := by
  unfold mo_at at hq
  show mv_rq l G mX13_at d 0 [some (.ref m), some (.int x1)] [] (md_H G B m S) _
  refine q_iload_n dX13_at_0 rfl ?_
  refine q_aload_n dX13_at_1 rfl ?_
  refine r_geti 5 dX13_at_2 fl_RX13_199 (by decide) rfl ki_5 ?_
  refine q_icmp_ge (tgt := 17) dX13_at_5 (by decide) (fun c5 => ?_) (fun c5 => ?_)
  ·
    have hq := md_pos c5 hq
    refine q_iconst (v := (-1)) dX13_at_17 (by decide) ?_
    refine mv_weak (A := [none, none]) (by repeat' constructor) ?_
    exact ro_at_j18 hG hm hq
  ·
    have hq := md_neg c5 hq
    refine q_aload_n dX13_at_8 rfl ?_
    refine r_geta 4 dX13_at_9 fl_RX13_17 (by decide) rfl kk_4 ?_
    refine q_iload_n dX13_at_12 rfl ?_
    obtain ⟨g13, hq⟩ := md_g hq
    refine r_bald hG 4 dX13_at_13 kk_4 g13 ?_
    refine q_goto (tgt := 18) dX13_at_14 (by decide) ?_
    refine mv_weak (A := [none, none]) (by repeat' constructor) ?_
    exact ro_at_j18 hG hm hq
def mo_good_j13 (y0 : Int32) (S : md_S) : Option (Int32 × md_S) :=
  if md_bo y0 then
  some (y0, S)
  else none
theorem ro_good_j13 {l : Launch} {G : mv_G} {B : mv_H} {m d : Nat} (hG : mv_ok G) (hm : G.2.2.1 ≤ m) {y0 : Int32} {S : md_S} {q : (Int32 × md_S)} (hq : mo_good_j13 y0 S = some q) : mv_rq l G mX13_good d 13 [none] [.int y0] (md_H G B m S) (md_Q G B m q) := by
  unfold mo_good_j13 at hq
  obtain ⟨g13, hq⟩ := md_g hq
  obtain rfl := Option.some.inj hq
  exact q_iret (ty := .boolean) dX13_good_13 rfl (md_bnar g13) ⟨rfl, rfl⟩
def mo_good (S : md_S) : Option (Int32 × md_S) :=
  if (S.1 7) = (-1) then
    mo_good_j13 1 S
  else
    mo_good_j13 0 S
theorem ro_good {l : Launch} {G : mv_G} {B : mv_H} {m d : Nat} (hG : mv_ok G) (hm : G.2.2.1 ≤ m) {S : md_S} {q : (Int32 × md_S)} (hq : mo_good S = some q) : mv_rq l G mX13_good d 0 (mv_in [.ref m] 1) [] (md_H G B m S) (md_Q G B m q) := by
  unfold mo_good at hq
  show mv_rq l G mX13_good d 0 [some (.ref m)] [] (md_H G B m S) _
  refine q_aload_n dX13_good_0 rfl ?_
  refine r_geti 7 dX13_good_1 fl_RX13_205 (by decide) rfl ki_7 ?_
  refine q_iconst (v := (-1)) dX13_good_4 (by decide) ?_
  refine q_icmp_ne (tgt := 12) dX13_good_5 (by decide) (fun c5 => ?_) (fun c5 => ?_)
  ·
    have hq := md_neg c5 hq
    refine q_iconst (v := 0) dX13_good_12 (by decide) ?_
    refine mv_weak (A := [none]) (by repeat' constructor) ?_
    exact ro_good_j13 hG hm hq
  ·
    have hq := md_pos c5 hq
    refine q_iconst (v := 1) dX13_good_8 (by decide) ?_
    refine q_goto (tgt := 13) dX13_good_9 (by decide) ?_
    refine mv_weak (A := [none]) (by repeat' constructor) ?_
    exact ro_good_j13 hG hm hq
def mo_fail_j16 (y0 : Int32) (S : md_S) : Option md_S :=
  md_l (md_p S 7 y0) fun S16 =>
  some S16
theorem ro_fail_j16 {l : Launch} {G : mv_G} {B : mv_H} {m d : Nat} (hG : mv_ok G) (hm : G.2.2.1 ≤ m) {y0 : Int32} {S : md_S} {q : md_S} (hq : mo_fail_j16 y0 S = some q) : mv_rq l G mX13_fail (d + 1) 16 [none, none] [.int y0, .ref m] (md_H G B m S) (md_V G B m q) := by
  unfold mo_fail_j16 at hq
  refine r_puti 7 .int dX13_fail_16 fl_RX13_205 (by decide) rfl ki_7 rfl kp_7 rfl rfl hm (fun S16 e16 => ?_)
  have hq := md_l_e e16 hq
  clear e16
  show mv_rq l G mX13_fail (d + 1) 19 [none, none] [] (md_H G B m S16) _
  obtain rfl := Option.some.inj hq
  exact q_vret dX13_fail_19 rfl ⟨rfl, rfl⟩
def mo_fail (x1 : Int32) (S : md_S) : Option md_S :=
  md_b (mo_good S) fun v2 S2 =>
  if v2 = 0 then
    mo_fail_j16 (S2.1 7) S2
  else
    mo_fail_j16 x1 S2
theorem ro_fail {l : Launch} {G : mv_G} {B : mv_H} {m d : Nat} (hG : mv_ok G) (hm : G.2.2.1 ≤ m) {x1 : Int32} {S : md_S} {q : md_S} (hq : mo_fail x1 S = some q) : mv_rq l G mX13_fail (d + 1) 0 (mv_in [.ref m, .int x1] 2) [] (md_H G B m S) (md_V G B m q) := by
  unfold mo_fail at hq
  show mv_rq l G mX13_fail (d + 1) 0 [some (.ref m), some (.int x1)] [] (md_H G B m S) _
  refine q_aload_n dX13_fail_0 rfl ?_
  refine q_aload_n dX13_fail_1 rfl ?_
  obtain ⟨v2, S2, e2, hq⟩ := md_b_e hq
  refine q_cV (Y := mX13_good) (As := []) (st := [.ref m]) (b := m) (ci := 15) vc_X13_good dX13_fail_2 ml_RX13_208 rfl md_obj rfl (Nat.le_of_ble_eq_true rfl) rfl (Nat.le_of_ble_eq_true rfl) (ro_good (d := d) hG hm e2) (fun v h1 hq1 => ?_) (fun E h1 hq1 => md_nQ hq1)
  obtain ⟨hv, rfl⟩ := hq1
  cases hv
  show mv_rq l G mX13_fail (d + 1) 5 [some (.ref m), some (.int x1)] [.int v2, .ref m] (md_H G B m S2) _
  refine q_if_eq (tgt := 12) dX13_fail_5 (by decide) (fun c5 => ?_) (fun c5 => ?_)
  ·
    have hq := md_pos c5 hq
    refine q_aload_n dX13_fail_12 rfl ?_
    refine r_geti 7 dX13_fail_13 fl_RX13_205 (by decide) rfl ki_7 ?_
    refine mv_weak (A := [none, none]) (by repeat' constructor) ?_
    exact ro_fail_j16 hG hm hq
  ·
    have hq := md_neg c5 hq
    refine q_iload_n dX13_fail_8 rfl ?_
    refine q_goto (tgt := 16) dX13_fail_9 (by decide) ?_
    refine mv_weak (A := [none, none]) (by repeat' constructor) ?_
    exact ro_fail_j16 hG hm hq
def mo_isDigit_j17 (y0 : Int32) (S : md_S) : Option (Int32 × md_S) :=
  if md_bo y0 then
  some (y0, S)
  else none
theorem ro_isDigit_j17 {l : Launch} {G : mv_G} {B : mv_H} {m d : Nat} (hG : mv_ok G) (hm : G.2.2.1 ≤ m) {y0 : Int32} {S : md_S} {q : (Int32 × md_S)} (hq : mo_isDigit_j17 y0 S = some q) : mv_rq l G mX13_isDigit d 17 [none] [.int y0] (md_H G B m S) (md_Q G B m q) := by
  unfold mo_isDigit_j17 at hq
  obtain ⟨g17, hq⟩ := md_g hq
  obtain rfl := Option.some.inj hq
  exact q_iret (ty := .boolean) dX13_isDigit_17 rfl (md_bnar g17) ⟨rfl, rfl⟩
def mo_isDigit_j16 (S : md_S) : Option (Int32 × md_S) :=
  mo_isDigit_j17 0 S
theorem ro_isDigit_j16 {l : Launch} {G : mv_G} {B : mv_H} {m d : Nat} (hG : mv_ok G) (hm : G.2.2.1 ≤ m) {S : md_S} {q : (Int32 × md_S)} (hq : mo_isDigit_j16  S = some q) : mv_rq l G mX13_isDigit d 16 [none] [] (md_H G B m S) (md_Q G B m q) := by
  unfold mo_isDigit_j16 at hq
  refine q_iconst (v := 0) dX13_isDigit_16 (by decide) ?_
  refine mv_weak (A := [none]) (by repeat' constructor) ?_
  exact ro_isDigit_j17 hG hm hq
def mo_isDigit (x0 : Int32) (S : md_S) : Option (Int32 × md_S) :=
  if x0 < 48 then
    mo_isDigit_j16  S
  else
    if 57 < x0 then
      mo_isDigit_j16  S
    else
      mo_isDigit_j17 1 S
theorem ro_isDigit {l : Launch} {G : mv_G} {B : mv_H} {m d : Nat} (hG : mv_ok G) (hm : G.2.2.1 ≤ m) {x0 : Int32} {S : md_S} {q : (Int32 × md_S)} (hq : mo_isDigit x0 S = some q) : mv_rq l G mX13_isDigit d 0 (mv_in [.int x0] 1) [] (md_H G B m S) (md_Q G B m q) := by
  unfold mo_isDigit at hq
  show mv_rq l G mX13_isDigit d 0 [some (.int x0)] [] (md_H G B m S) _
  refine q_iload_n dX13_isDigit_0 rfl ?_
  refine q_bipush (v := 48) dX13_isDigit_1 (by decide) ?_
  refine q_icmp_lt (tgt := 16) dX13_isDigit_3 (by decide) (fun c3 => ?_) (fun c3 => ?_)
  ·
    have hq := md_pos c3 hq
    refine mv_weak (A := [none]) (by repeat' constructor) ?_
    exact ro_isDigit_j16 hG hm hq
  ·
    have hq := md_neg c3 hq
    refine q_iload_n dX13_isDigit_6 rfl ?_
    refine q_bipush (v := 57) dX13_isDigit_7 (by decide) ?_
    refine q_icmp_gt (tgt := 16) dX13_isDigit_9 (by decide) (fun c9 => ?_) (fun c9 => ?_)
    ·
      have hq := md_pos c9 hq
      refine mv_weak (A := [none]) (by repeat' constructor) ?_
      exact ro_isDigit_j16 hG hm hq
    ·
      have hq := md_neg c9 hq
      refine q_iconst (v := 1) dX13_isDigit_12 (by decide) ?_
      refine q_goto (tgt := 17) dX13_isDigit_13 (by decide) ?_
      refine mv_weak (A := [none]) (by repeat' constructor) ?_
      exact ro_isDigit_j17 hG hm hq
def mo_isLetter_j17 (y0 : Int32) (S : md_S) : Option (Int32 × md_S) :=
  if md_bo y0 then
  some (y0, S)
  else none
theorem ro_isLetter_j17 {l : Launch} {G : mv_G} {B : mv_H} {m d : Nat} (hG : mv_ok G) (hm : G.2.2.1 ≤ m) {y0 : Int32} {S : md_S} {q : (Int32 × md_S)} (hq : mo_isLetter_j17 y0 S = some q) : mv_rq l G mX13_isLetter d 17 [none] [.int y0] (md_H G B m S) (md_Q G B m q) := by
  unfold mo_isLetter_j17 at hq
  obtain ⟨g17, hq⟩ := md_g hq
  obtain rfl := Option.some.inj hq
  exact q_iret (ty := .boolean) dX13_isLetter_17 rfl (md_bnar g17) ⟨rfl, rfl⟩
def mo_isLetter_j16 (S : md_S) : Option (Int32 × md_S) :=
  mo_isLetter_j17 0 S
theorem ro_isLetter_j16 {l : Launch} {G : mv_G} {B : mv_H} {m d : Nat} (hG : mv_ok G) (hm : G.2.2.1 ≤ m) {S : md_S} {q : (Int32 × md_S)} (hq : mo_isLetter_j16  S = some q) : mv_rq l G mX13_isLetter d 16 [none] [] (md_H G B m S) (md_Q G B m q) := by
  unfold mo_isLetter_j16 at hq
  refine q_iconst (v := 0) dX13_isLetter_16 (by decide) ?_
  refine mv_weak (A := [none]) (by repeat' constructor) ?_
  exact ro_isLetter_j17 hG hm hq
def mo_isLetter (x0 : Int32) (S : md_S) : Option (Int32 × md_S) :=
  if x0 < 97 then
    mo_isLetter_j16  S
  else
    if 122 < x0 then
      mo_isLetter_j16  S
    else
      mo_isLetter_j17 1 S
theorem ro_isLetter {l : Launch} {G : mv_G} {B : mv_H} {m d : Nat} (hG : mv_ok G) (hm : G.2.2.1 ≤ m) {x0 : Int32} {S : md_S} {q : (Int32 × md_S)} (hq : mo_isLetter x0 S = some q) : mv_rq l G mX13_isLetter d 0 (mv_in [.int x0] 1) [] (md_H G B m S) (md_Q G B m q) := by
  unfold mo_isLetter at hq
  show mv_rq l G mX13_isLetter d 0 [some (.int x0)] [] (md_H G B m S) _
  refine q_iload_n dX13_isLetter_0 rfl ?_
  refine q_bipush (v := 97) dX13_isLetter_1 (by decide) ?_
  refine q_icmp_lt (tgt := 16) dX13_isLetter_3 (by decide) (fun c3 => ?_) (fun c3 => ?_)
  ·
    have hq := md_pos c3 hq
    refine mv_weak (A := [none]) (by repeat' constructor) ?_
    exact ro_isLetter_j16 hG hm hq
  ·
    have hq := md_neg c3 hq
    refine q_iload_n dX13_isLetter_6 rfl ?_
    refine q_bipush (v := 122) dX13_isLetter_7 (by decide) ?_
    refine q_icmp_gt (tgt := 16) dX13_isLetter_9 (by decide) (fun c9 => ?_) (fun c9 => ?_)
    ·
      have hq := md_pos c9 hq
      refine mv_weak (A := [none]) (by repeat' constructor) ?_
      exact ro_isLetter_j16 hG hm hq
    ·
      have hq := md_neg c9 hq
      refine q_iconst (v := 1) dX13_isLetter_12 (by decide) ?_
      refine q_goto (tgt := 17) dX13_isLetter_13 (by decide) ?_
      refine mv_weak (A := [none]) (by repeat' constructor) ?_
      exact ro_isLetter_j17 hG hm hq
def mo_need_j32 (S : md_S) : Option md_S :=
  md_c (mo_fail (S.1 6) S) fun S37 =>
  some S37
theorem ro_need_j32 {l : Launch} {G : mv_G} {B : mv_H} {m d : Nat} (hG : mv_ok G) (hm : G.2.2.1 ≤ m) {S : md_S} {q : md_S} (hq : mo_need_j32  S = some q) : mv_rq l G mX13_need (d + 2) 32 [some (.ref m), none] [] (md_H G B m S) (md_V G B m q) := by
  unfold mo_need_j32 at hq
  refine q_aload_n dX13_need_32 rfl ?_
  refine q_aload_n dX13_need_33 rfl ?_
  refine r_geti 6 dX13_need_34 fl_RX13_202 (by decide) rfl ki_6 ?_
  obtain ⟨S37, e37, hq⟩ := md_c_e hq
  refine q_cV (Y := mX13_fail) (As := [.int (S.1 6)]) (st := []) (b := m) (ci := 15) vc_X13_fail dX13_need_37 ml_RX13_216 rfl md_obj rfl (Nat.le_of_ble_eq_true rfl) rfl (Nat.le_of_ble_eq_true rfl) (ro_fail (d := d) hG hm e37) (fun v h1 hq1 => ?_) (fun E h1 hq1 => md_nV hq1)
  obtain ⟨hv, rfl⟩ := hq1
  cases hv
  show mv_rq l G mX13_need (d + 2) 40 [some (.ref m), none] [] (md_H G B m S37) _
  obtain rfl := Option.some.inj hq
  exact q_vret dX13_need_40 rfl ⟨rfl, rfl⟩
def mo_need (x1 : Int32) (S : md_S) : Option md_S :=
  md_b (mo_good S) fun v1 S1 =>
  if v1 = 0 then
    mo_need_j32  S1
  else
    md_b (mo_at (S1.1 6) S1) fun v12 S12 =>
    if v12 = x1 then
      md_l (md_p S12 6 ((S12.1 6) + 1)) fun S26 =>
      some S26
    else
      mo_need_j32  S12
theorem ro_need {l : Launch} {G : mv_G} {B : mv_H} {m d : Nat} (hG : mv_ok G) (hm : G.2.2.1 ≤ m) {x1 : Int32} {S : md_S} {q : md_S} (hq : mo_need x1 S = some q) : mv_rq l G mX13_need (d + 2) 0 (mv_in [.ref m, .int x1] 2) [] (md_H G B m S) (md_V G B m q) := by
  unfold mo_need at hq
  show mv_rq l G mX13_need (d + 2) 0 [some (.ref m), some (.int x1)] [] (md_H G B m S) _
  refine q_aload_n dX13_need_0 rfl ?_
  obtain ⟨v1, S1, e1, hq⟩ := md_b_e hq
  refine q_cV (Y := mX13_good) (As := []) (st := []) (b := m) (ci := 15) vc_X13_good dX13_need_1 ml_RX13_208 rfl md_obj rfl (Nat.le_of_ble_eq_true rfl) rfl (Nat.le_of_ble_eq_true rfl) (ro_good (d := d + 1) hG hm e1) (fun v h1 hq1 => ?_) (fun E h1 hq1 => md_nQ hq1)
  obtain ⟨hv, rfl⟩ := hq1
  cases hv
  show mv_rq l G mX13_need (d + 2) 4 [some (.ref m), some (.int x1)] [.int v1] (md_H G B m S1) _
  refine q_if_eq (tgt := 32) dX13_need_4 (by decide) (fun c4 => ?_) (fun c4 => ?_)
  ·
    have hq := md_pos c4 hq
    refine mv_weak (A := [some (.ref m), none]) (by repeat' constructor) ?_
    exact ro_need_j32 hG hm hq
  ·
    have hq := md_neg c4 hq
    refine q_aload_n dX13_need_7 rfl ?_
    refine q_aload_n dX13_need_8 rfl ?_
    refine r_geti 6 dX13_need_9 fl_RX13_202 (by decide) rfl ki_6 ?_
    obtain ⟨v12, S12, e12, hq⟩ := md_b_e hq
    refine q_cV (Y := mX13_at) (As := [.int (S1.1 6)]) (st := []) (b := m) (ci := 15) vc_X13_at dX13_need_12 ml_RX13_212 rfl md_obj rfl (Nat.le_of_ble_eq_true rfl) rfl (Nat.le_of_ble_eq_true rfl) (ro_at (d := d + 1) hG hm e12) (fun v h1 hq1 => ?_) (fun E h1 hq1 => md_nQ hq1)
    obtain ⟨hv, rfl⟩ := hq1
    cases hv
    show mv_rq l G mX13_need (d + 2) 15 [some (.ref m), some (.int x1)] [.int v12] (md_H G B m S12) _
    refine q_iload_n dX13_need_15 rfl ?_
    refine q_icmp_ne (tgt := 32) dX13_need_16 (by decide) (fun c16 => ?_) (fun c16 => ?_)
    ·
      have hq := md_neg c16 hq
      refine mv_weak (A := [some (.ref m), none]) (by repeat' constructor) ?_
      exact ro_need_j32 hG hm hq
    ·
      have hq := md_pos c16 hq
      refine q_aload_n dX13_need_19 rfl ?_
      refine q_dup dX13_need_20 rfl ?_
      refine r_geti 6 dX13_need_21 fl_RX13_202 (by decide) rfl ki_6 ?_
      refine q_iconst (v := 1) dX13_need_24 (by decide) ?_
      refine q_iadd dX13_need_25 ?_
      refine r_puti 6 .int dX13_need_26 fl_RX13_202 (by decide) rfl ki_6 rfl kp_6 rfl rfl hm (fun S26 e26 => ?_)
      have hq := md_l_e e26 hq
      clear e26
      show mv_rq l G mX13_need (d + 2) 29 [some (.ref m), some (.int x1)] [] (md_H G B m S26) _
      refine q_goto (tgt := 40) dX13_need_29 (by decide) ?_
      obtain rfl := Option.some.inj hq
      exact q_vret dX13_need_40 rfl ⟨rfl, rfl⟩
def mo_word_l5 (N : Nat) : Nat → Int64 → Int32 → md_S → Option md_S
  | 0, _, _, _ => none
  | n + 1, x1, x4, S =>
    if x4 < 0 then
      some S
    else
      md_c (mo_need (((x1 >>> ((8 * x4).toInt64 &&& 63)) &&& 255).toInt32) S) fun S23 =>
      mo_word_l5 N n x1 (x4 + (-1)) S23
theorem ro_word_l5 {l : Launch} {G : mv_G} {B : mv_H} {m N d : Nat} (hG : mv_ok G) (hm : G.2.2.1 ≤ m) : ∀ n : Nat, ∀ {x1 : Int64} {x4 : Int32} {S : md_S} {q : md_S}, mo_word_l5 N n x1 x4 S = some q → mv_rq l G mX13_word (d + 3) 5 [some (.ref m), some (.long x1), none, none, some (.int x4)] [] (md_H G B m S) (md_V G B m q)
  | 0, _, _, _, _, hq => nomatch hq
  | n + 1, x1, x4, S, q, hq => by
    rw [mo_word_l5] at hq
    refine q_iload dX13_word_5 rfl ?_
    refine q_if_lt (tgt := 32) dX13_word_7 (by decide) (fun c7 => ?_) (fun c7 => ?_)
    ·
      have hq := md_pos c7 hq
      obtain rfl := Option.some.inj hq
      exact q_vret dX13_word_32 rfl ⟨rfl, rfl⟩
    ·
      have hq := md_neg c7 hq
      refine q_aload_n dX13_word_10 rfl ?_
      refine q_lload_n dX13_word_11 rfl ?_
      refine q_bipush (v := 8) dX13_word_12 (by decide) ?_
      refine q_iload dX13_word_14 rfl ?_
      refine q_imul dX13_word_16 ?_
      refine q_lshr dX13_word_17 ?_
      refine q_ldc2 dX13_word_18 cu_RX13_220 ?_
      refine q_land dX13_word_21 ?_
      refine q_l2i dX13_word_22 ?_
      obtain ⟨S23, e23, hq⟩ := md_c_e hq
      refine q_cV (Y := mX13_need) (As := [.int ((x1 >>> ((8 * x4).toInt64 &&& 63)) &&& 255).toInt32]) (st := []) (b := m) (ci := 15) vc_X13_need dX13_word_23 ml_RX13_222 rfl md_obj rfl (Nat.le_of_ble_eq_true rfl) rfl (Nat.le_of_ble_eq_true rfl) (ro_need (d := d) hG hm e23) (fun v h1 hq1 => ?_) (fun E h1 hq1 => md_nV hq1)
      obtain ⟨hv, rfl⟩ := hq1
      cases hv
      show mv_rq l G mX13_word (d + 3) 26 [some (.ref m), some (.long x1), none, none, some (.int x4)] [] (md_H G B m S23) _
      refine q_iinc dX13_word_26 rfl rfl ?_
      show mv_rq l G mX13_word (d + 3) 29 [some (.ref m), some (.long x1), none, none, some (.int (x4 + (-1)))] [] (md_H G B m S23) _
      refine q_goto (tgt := 5) dX13_word_29 (by decide) ?_
      refine mv_weak (A := [some (.ref m), some (.long x1), none, none, some (.int (x4 + (-1)))]) (by repeat' constructor) ?_
      exact ro_word_l5 hG hm n hq
def mo_word (N : Nat) (x1 : Int64) (x3 : Int32) (S : md_S) : Option md_S :=
  mo_word_l5 N N x1 (x3 - 1) S
theorem ro_word {l : Launch} {G : mv_G} {B : mv_H} {m N d : Nat} (hG : mv_ok G) (hm : G.2.2.1 ≤ m) {x1 : Int64} {x3 : Int32} {S : md_S} {q : md_S} (hq : mo_word N x1 x3 S = some q) : mv_rq l G mX13_word (d + 3) 0 (mv_in [.ref m, .long x1, .int x3] 5) [] (md_H G B m S) (md_V G B m q) := by
  unfold mo_word at hq
  show mv_rq l G mX13_word (d + 3) 0 [some (.ref m), some (.long x1), none, some (.int x3), none] [] (md_H G B m S) _
  refine q_iload_n dX13_word_0 rfl ?_
  refine q_iconst (v := 1) dX13_word_1 (by decide) ?_
  refine q_isub dX13_word_2 ?_
  refine q_istore dX13_word_3 (Nat.le_of_ble_eq_true rfl) rfl ?_
  show mv_rq l G mX13_word (d + 3) 5 [some (.ref m), some (.long x1), none, some (.int x3), some (.int (x3 - 1))] [] (md_H G B m S) _
  refine mv_weak (A := [some (.ref m), some (.long x1), none, none, some (.int (x3 - 1))]) (by repeat' constructor) ?_
  exact ro_word_l5 hG hm N hq
def mo_readString_j112 (N : Nat) (S : md_S) : Option md_S :=
  md_l (md_p S 87 ((S.1 6) - (S.1 86))) fun S122 =>
  md_l (md_p S122 6 ((S122.1 6) + 1)) fun S132 =>
  some S132
theorem ro_readString_j112 {l : Launch} {G : mv_G} {B : mv_H} {m N d : Nat} (hG : mv_ok G) (hm : G.2.2.1 ≤ m) {S : md_S} {q : md_S} (hq : mo_readString_j112 N  S = some q) : mv_rq l G mX13_readString (d + 2) 112 [some (.ref m), none, none, none] [] (md_H G B m S) (md_V G B m q) := by
  unfold mo_readString_j112 at hq
  refine q_aload_n dX13_readString_112 rfl ?_
  refine q_aload_n dX13_readString_113 rfl ?_
  refine r_geti 6 dX13_readString_114 fl_RX13_202 (by decide) rfl ki_6 ?_
  refine q_aload_n dX13_readString_117 rfl ?_
  refine r_geti 86 dX13_readString_118 fl_RX13_225 (by decide) rfl ki_86 ?_
  refine q_isub dX13_readString_121 ?_
  refine r_puti 87 .int dX13_readString_122 fl_RX13_228 (by decide) rfl ki_87 rfl kp_87 rfl rfl hm (fun S122 e122 => ?_)
  have hq := md_l_e e122 hq
  clear e122
  show mv_rq l G mX13_readString (d + 2) 125 [some (.ref m), none, none, none] [] (md_H G B m S122) _
  refine q_aload_n dX13_readString_125 rfl ?_
  refine q_dup dX13_readString_126 rfl ?_
  refine r_geti 6 dX13_readString_127 fl_RX13_202 (by decide) rfl ki_6 ?_
  refine q_iconst (v := 1) dX13_readString_130 (by decide) ?_
  refine q_iadd dX13_readString_131 ?_
  refine r_puti 6 .int dX13_readString_132 fl_RX13_202 (by decide) rfl ki_6 rfl kp_6 rfl rfl hm (fun S132 e132 => ?_)
  have hq := md_l_e e132 hq
  clear e132
  show mv_rq l G mX13_readString (d + 2) 135 [some (.ref m), none, none, none] [] (md_H G B m S132) _
  obtain rfl := Option.some.inj hq
  exact q_vret dX13_readString_135 rfl ⟨rfl, rfl⟩
def mo_readString_l23 (N : Nat) : Nat → Int32 → Int32 → Int32 → md_S → Option md_S
  | 0, _, _, _, _ => none
  | n + 1, x1, x2, x3, S =>
    md_b (mo_good S) fun v24 S24 =>
    if v24 = 0 then
      mo_readString_j112 N  S24
    else
      md_b (mo_at (S24.1 6) S24) fun v35 S35 =>
      if v35 = x1 then
        mo_readString_j112 N  S35
      else
        md_b (mo_at (S35.1 6) S35) fun v47 S47 =>
        if v47 = (-1) then
          md_c (mo_fail (S47.1 6) S47) fun S71 =>
          mo_readString_l23 N n x1 x2 x3 S71
        else
          md_b (mo_at (S47.1 6) S47) fun v59 S59 =>
          if v59 = x2 then
            md_c (mo_fail (S59.1 6) S59) fun S71 =>
            mo_readString_l23 N n x1 x2 x3 S71
          else
            if ((S59.1 6) - (S59.1 86)) = 8 then
              md_c (mo_fail x3 S59) fun S93 =>
              mo_readString_l23 N n x1 x2 x3 S93
            else
              md_l (md_p S59 6 ((S59.1 6) + 1)) fun S106 =>
              mo_readString_l23 N n x1 x2 x3 S106
theorem ro_readString_l23 {l : Launch} {G : mv_G} {B : mv_H} {m N d : Nat} (hG : mv_ok G) (hm : G.2.2.1 ≤ m) : ∀ n : Nat, ∀ {x1 : Int32} {x2 : Int32} {x3 : Int32} {S : md_S} {q : md_S}, mo_readString_l23 N n x1 x2 x3 S = some q → mv_rq l G mX13_readString (d + 2) 23 [some (.ref m), some (.int x1), some (.int x2), some (.int x3)] [] (md_H G B m S) (md_V G B m q)
  | 0, _, _, _, _, _, hq => nomatch hq
  | n + 1, x1, x2, x3, S, q, hq => by
    rw [mo_readString_l23] at hq
    refine q_aload_n dX13_readString_23 rfl ?_
    obtain ⟨v24, S24, e24, hq⟩ := md_b_e hq
    refine q_cV (Y := mX13_good) (As := []) (st := []) (b := m) (ci := 15) vc_X13_good dX13_readString_24 ml_RX13_208 rfl md_obj rfl (Nat.le_of_ble_eq_true rfl) rfl (Nat.le_of_ble_eq_true rfl) (ro_good (d := d + 1) hG hm e24) (fun v h1 hq1 => ?_) (fun E h1 hq1 => md_nQ hq1)
    obtain ⟨hv, rfl⟩ := hq1
    cases hv
    show mv_rq l G mX13_readString (d + 2) 27 [some (.ref m), some (.int x1), some (.int x2), some (.int x3)] [.int v24] (md_H G B m S24) _
    refine q_if_eq (tgt := 112) dX13_readString_27 (by decide) (fun c27 => ?_) (fun c27 => ?_)
    ·
      have hq := md_pos c27 hq
      refine mv_weak (A := [some (.ref m), none, none, none]) (by repeat' constructor) ?_
      exact ro_readString_j112 hG hm hq
    ·
      have hq := md_neg c27 hq
      refine q_aload_n dX13_readString_30 rfl ?_
      refine q_aload_n dX13_readString_31 rfl ?_
      refine r_geti 6 dX13_readString_32 fl_RX13_202 (by decide) rfl ki_6 ?_
      obtain ⟨v35, S35, e35, hq⟩ := md_b_e hq
      refine q_cV (Y := mX13_at) (As := [.int (S24.1 6)]) (st := []) (b := m) (ci := 15) vc_X13_at dX13_readString_35 ml_RX13_212 rfl md_obj rfl (Nat.le_of_ble_eq_true rfl) rfl (Nat.le_of_ble_eq_true rfl) (ro_at (d := d + 1) hG hm e35) (fun v h1 hq1 => ?_) (fun E h1 hq1 => md_nQ hq1)
      obtain ⟨hv, rfl⟩ := hq1
      cases hv
      show mv_rq l G mX13_readString (d + 2) 38 [some (.ref m), some (.int x1), some (.int x2), some (.int x3)] [.int v35] (md_H G B m S35) _
      refine q_iload_n dX13_readString_38 rfl ?_
      refine q_icmp_eq (tgt := 112) dX13_readString_39 (by decide) (fun c39 => ?_) (fun c39 => ?_)
      ·
        have hq := md_pos c39 hq
        refine mv_weak (A := [some (.ref m), none, none, none]) (by repeat' constructor) ?_
        exact ro_readString_j112 hG hm hq
      ·
        have hq := md_neg c39 hq
        refine q_aload_n dX13_readString_42 rfl ?_
        refine q_aload_n dX13_readString_43 rfl ?_
        refine r_geti 6 dX13_readString_44 fl_RX13_202 (by decide) rfl ki_6 ?_
        obtain ⟨v47, S47, e47, hq⟩ := md_b_e hq
        refine q_cV (Y := mX13_at) (As := [.int (S35.1 6)]) (st := []) (b := m) (ci := 15) vc_X13_at dX13_readString_47 ml_RX13_212 rfl md_obj rfl (Nat.le_of_ble_eq_true rfl) rfl (Nat.le_of_ble_eq_true rfl) (ro_at (d := d + 1) hG hm e47) (fun v h1 hq1 => ?_) (fun E h1 hq1 => md_nQ hq1)
        obtain ⟨hv, rfl⟩ := hq1
        cases hv
        show mv_rq l G mX13_readString (d + 2) 50 [some (.ref m), some (.int x1), some (.int x2), some (.int x3)] [.int v47] (md_H G B m S47) _
        refine q_iconst (v := (-1)) dX13_readString_50 (by decide) ?_
        refine q_icmp_eq (tgt := 66) dX13_readString_51 (by decide) (fun c51 => ?_) (fun c51 => ?_)
        ·
          have hq := md_pos c51 hq
          refine q_aload_n dX13_readString_66 rfl ?_
          refine q_aload_n dX13_readString_67 rfl ?_
          refine r_geti 6 dX13_readString_68 fl_RX13_202 (by decide) rfl ki_6 ?_
          obtain ⟨S71, e71, hq⟩ := md_c_e hq
          refine q_cV (Y := mX13_fail) (As := [.int (S47.1 6)]) (st := []) (b := m) (ci := 15) vc_X13_fail dX13_readString_71 ml_RX13_216 rfl md_obj rfl (Nat.le_of_ble_eq_true rfl) rfl (Nat.le_of_ble_eq_true rfl) (ro_fail (d := d) hG hm e71) (fun v h1 hq1 => ?_) (fun E h1 hq1 => md_nV hq1)
          obtain ⟨hv, rfl⟩ := hq1
          cases hv
          show mv_rq l G mX13_readString (d + 2) 74 [some (.ref m), some (.int x1), some (.int x2), some (.int x3)] [] (md_H G B m S71) _
          refine q_goto (tgt := 23) dX13_readString_74 (by decide) ?_
          refine mv_weak (A := [some (.ref m), some (.int x1), some (.int x2), some (.int x3)]) (by repeat' constructor) ?_
          exact ro_readString_l23 hG hm n hq
        ·
          have hq := md_neg c51 hq
          refine q_aload_n dX13_readString_54 rfl ?_
          refine q_aload_n dX13_readString_55 rfl ?_
          refine r_geti 6 dX13_readString_56 fl_RX13_202 (by decide) rfl ki_6 ?_
          obtain ⟨v59, S59, e59, hq⟩ := md_b_e hq
          refine q_cV (Y := mX13_at) (As := [.int (S47.1 6)]) (st := []) (b := m) (ci := 15) vc_X13_at dX13_readString_59 ml_RX13_212 rfl md_obj rfl (Nat.le_of_ble_eq_true rfl) rfl (Nat.le_of_ble_eq_true rfl) (ro_at (d := d + 1) hG hm e59) (fun v h1 hq1 => ?_) (fun E h1 hq1 => md_nQ hq1)
          obtain ⟨hv, rfl⟩ := hq1
          cases hv
          show mv_rq l G mX13_readString (d + 2) 62 [some (.ref m), some (.int x1), some (.int x2), some (.int x3)] [.int v59] (md_H G B m S59) _
          refine q_iload_n dX13_readString_62 rfl ?_
          refine q_icmp_ne (tgt := 77) dX13_readString_63 (by decide) (fun c63 => ?_) (fun c63 => ?_)
          ·
            have hq := md_neg c63 hq
            refine q_aload_n dX13_readString_77 rfl ?_
            refine r_geti 6 dX13_readString_78 fl_RX13_202 (by decide) rfl ki_6 ?_
            refine q_aload_n dX13_readString_81 rfl ?_
            refine r_geti 86 dX13_readString_82 fl_RX13_225 (by decide) rfl ki_86 ?_
            refine q_isub dX13_readString_85 ?_
            refine q_bipush (v := 8) dX13_readString_86 (by decide) ?_
            refine q_icmp_ne (tgt := 99) dX13_readString_88 (by decide) (fun c88 => ?_) (fun c88 => ?_)
            ·
              have hq := md_neg c88 hq
              refine q_aload_n dX13_readString_99 rfl ?_
              refine q_dup dX13_readString_100 rfl ?_
              refine r_geti 6 dX13_readString_101 fl_RX13_202 (by decide) rfl ki_6 ?_
              refine q_iconst (v := 1) dX13_readString_104 (by decide) ?_
              refine q_iadd dX13_readString_105 ?_
              refine r_puti 6 .int dX13_readString_106 fl_RX13_202 (by decide) rfl ki_6 rfl kp_6 rfl rfl hm (fun S106 e106 => ?_)
              have hq := md_l_e e106 hq
              clear e106
              show mv_rq l G mX13_readString (d + 2) 109 [some (.ref m), some (.int x1), some (.int x2), some (.int x3)] [] (md_H G B m S106) _
              refine q_goto (tgt := 23) dX13_readString_109 (by decide) ?_
              refine mv_weak (A := [some (.ref m), some (.int x1), some (.int x2), some (.int x3)]) (by repeat' constructor) ?_
              exact ro_readString_l23 hG hm n hq
            ·
              have hq := md_pos c88 hq
              refine q_aload_n dX13_readString_91 rfl ?_
              refine q_iload_n dX13_readString_92 rfl ?_
              obtain ⟨S93, e93, hq⟩ := md_c_e hq
              refine q_cV (Y := mX13_fail) (As := [.int x3]) (st := []) (b := m) (ci := 15) vc_X13_fail dX13_readString_93 ml_RX13_216 rfl md_obj rfl (Nat.le_of_ble_eq_true rfl) rfl (Nat.le_of_ble_eq_true rfl) (ro_fail (d := d) hG hm e93) (fun v h1 hq1 => ?_) (fun E h1 hq1 => md_nV hq1)
              obtain ⟨hv, rfl⟩ := hq1
              cases hv
              show mv_rq l G mX13_readString (d + 2) 96 [some (.ref m), some (.int x1), some (.int x2), some (.int x3)] [] (md_H G B m S93) _
              refine q_goto (tgt := 23) dX13_readString_96 (by decide) ?_
              refine mv_weak (A := [some (.ref m), some (.int x1), some (.int x2), some (.int x3)]) (by repeat' constructor) ?_
              exact ro_readString_l23 hG hm n hq
          ·
            have hq := md_pos c63 hq
            refine q_aload_n dX13_readString_66 rfl ?_
            refine q_aload_n dX13_readString_67 rfl ?_
            refine r_geti 6 dX13_readString_68 fl_RX13_202 (by decide) rfl ki_6 ?_
            obtain ⟨S71, e71, hq⟩ := md_c_e hq
            refine q_cV (Y := mX13_fail) (As := [.int (S59.1 6)]) (st := []) (b := m) (ci := 15) vc_X13_fail dX13_readString_71 ml_RX13_216 rfl md_obj rfl (Nat.le_of_ble_eq_true rfl) rfl (Nat.le_of_ble_eq_true rfl) (ro_fail (d := d) hG hm e71) (fun v h1 hq1 => ?_) (fun E h1 hq1 => md_nV hq1)
            obtain ⟨hv, rfl⟩ := hq1
            cases hv
            show mv_rq l G mX13_readString (d + 2) 74 [some (.ref m), some (.int x1), some (.int x2), some (.int x3)] [] (md_H G B m S71) _
            refine q_goto (tgt := 23) dX13_readString_74 (by decide) ?_
            refine mv_weak (A := [some (.ref m), some (.int x1), some (.int x2), some (.int x3)]) (by repeat' constructor) ?_
            exact ro_readString_l23 hG hm n hq
def mo_readString (N : Nat) (x1 : Int32) (x2 : Int32) (S : md_S) : Option md_S :=
  md_l (md_p S 6 ((S.1 6) + 1)) fun S12 =>
  md_l (md_p S12 86 (S12.1 6)) fun S20 =>
  mo_readString_l23 N N x1 x2 (S.1 6) S20
theorem ro_readString {l : Launch} {G : mv_G} {B : mv_H} {m N d : Nat} (hG : mv_ok G) (hm : G.2.2.1 ≤ m) {x1 : Int32} {x2 : Int32} {S : md_S} {q : md_S} (hq : mo_readString N x1 x2 S = some q) : mv_rq l G mX13_readString (d + 2) 0 (mv_in [.ref m, .int x1, .int x2] 4) [] (md_H G B m S) (md_V G B m q) := by
  unfold mo_readString at hq
  show mv_rq l G mX13_readString (d + 2) 0 [some (.ref m), some (.int x1), some (.int x2), none] [] (md_H G B m S) _
  refine q_aload_n dX13_readString_0 rfl ?_
  refine r_geti 6 dX13_readString_1 fl_RX13_202 (by decide) rfl ki_6 ?_
  refine q_istore_n dX13_readString_4 (Nat.le_of_ble_eq_true rfl) rfl ?_
  show mv_rq l G mX13_readString (d + 2) 5 [some (.ref m), some (.int x1), some (.int x2), some (.int (S.1 6))] [] (md_H G B m S) _
  refine q_aload_n dX13_readString_5 rfl ?_
  refine q_dup dX13_readString_6 rfl ?_
  refine r_geti 6 dX13_readString_7 fl_RX13_202 (by decide) rfl ki_6 ?_
  refine q_iconst (v := 1) dX13_readString_10 (by decide) ?_
  refine q_iadd dX13_readString_11 ?_
  refine r_puti 6 .int dX13_readString_12 fl_RX13_202 (by decide) rfl ki_6 rfl kp_6 rfl rfl hm (fun S12 e12 => ?_)
  have hq := md_l_e e12 hq
  clear e12
  show mv_rq l G mX13_readString (d + 2) 15 [some (.ref m), some (.int x1), some (.int x2), some (.int (S.1 6))] [] (md_H G B m S12) _
  refine q_aload_n dX13_readString_15 rfl ?_
  refine q_aload_n dX13_readString_16 rfl ?_
  refine r_geti 6 dX13_readString_17 fl_RX13_202 (by decide) rfl ki_6 ?_
  refine r_puti 86 .int dX13_readString_20 fl_RX13_225 (by decide) rfl ki_86 rfl kp_86 rfl rfl hm (fun S20 e20 => ?_)
  have hq := md_l_e e20 hq
  clear e20
  show mv_rq l G mX13_readString (d + 2) 23 [some (.ref m), some (.int x1), some (.int x2), some (.int (S.1 6))] [] (md_H G B m S20) _
  refine mv_weak (A := [some (.ref m), some (.int x1), some (.int x2), some (.int (S.1 6))]) (by repeat' constructor) ?_
  exact ro_readString_l23 hG hm N hq
def mo_readNumber_j198 (N : Nat) (y0 : Int32) (S : md_S) : Option (Int32 × md_S) :=
  some (y0, S)
theorem ro_readNumber_j198 {l : Launch} {G : mv_G} {B : mv_H} {m N d : Nat} (hG : mv_ok G) (hm : G.2.2.1 ≤ m) {y0 : Int32} {S : md_S} {q : (Int32 × md_S)} (hq : mo_readNumber_j198 N y0 S = some q) : mv_rq l G mX13_readNumber (d + 2) 198 [none, none, none, none, none, none] [.int y0] (md_H G B m S) (md_Q G B m q) := by
  unfold mo_readNumber_j198 at hq
  obtain rfl := Option.some.inj hq
  exact q_iret (ty := .int) dX13_readNumber_198 rfl rfl ⟨rfl, rfl⟩
def mo_readNumber_j186 (N : Nat) (x3 : Int32) (x4 : Int32) (S : md_S) : Option (Int32 × md_S) :=
  if x3 = 0 then
    mo_readNumber_j198 N x4 S
  else
    mo_readNumber_j198 N (-x4) S
theorem ro_readNumber_j186 {l : Launch} {G : mv_G} {B : mv_H} {m N d : Nat} (hG : mv_ok G) (hm : G.2.2.1 ≤ m) {x3 : Int32} {x4 : Int32} {S : md_S} {q : (Int32 × md_S)} (hq : mo_readNumber_j186 N x3 x4 S = some q) : mv_rq l G mX13_readNumber (d + 2) 186 [none, none, none, some (.int x3), some (.int x4), none] [] (md_H G B m S) (md_Q G B m q) := by
  unfold mo_readNumber_j186 at hq
  refine q_iload_n dX13_readNumber_186 rfl ?_
  refine q_if_eq (tgt := 196) dX13_readNumber_187 (by decide) (fun c187 => ?_) (fun c187 => ?_)
  ·
    have hq := md_pos c187 hq
    refine q_iload dX13_readNumber_196 rfl ?_
    refine mv_weak (A := [none, none, none, none, none, none]) (by repeat' constructor) ?_
    exact ro_readNumber_j198 hG hm hq
  ·
    have hq := md_neg c187 hq
    refine q_iload dX13_readNumber_190 rfl ?_
    refine q_ineg dX13_readNumber_192 ?_
    refine q_goto (tgt := 198) dX13_readNumber_193 (by decide) ?_
    refine mv_weak (A := [none, none, none, none, none, none]) (by repeat' constructor) ?_
    exact ro_readNumber_j198 hG hm hq
def mo_readNumber_l108 (N : Nat) : Nat → Int32 → Int32 → Int32 → Int32 → Int32 → md_S → Option (Int32 × md_S)
  | 0, _, _, _, _, _, _ => none
  | n + 1, x1, x2, x3, x4, x5, S =>
    md_b (mo_good S) fun v109 S109 =>
    if v109 = 0 then
      mo_readNumber_j186 N x3 x4 S109
    else
      md_b (mo_at (S109.1 6) S109) fun v120 S120 =>
      md_b (mo_isDigit v120 S120) fun v123 S123 =>
      if v123 = 0 then
        mo_readNumber_j186 N x3 x4 S123
      else
        if x5 = x1 then
          md_c (mo_fail x2 S123) fun S137 =>
          if x1 ≤ x5 then
            md_l (md_p S137 6 ((S137.1 6) + 1)) fun S180 =>
            mo_readNumber_l108 N n x1 x2 x3 x4 (x5 + 1) S180
          else
            md_b (mo_at (S137.1 6) S137) fun v156 S156 =>
            md_l (md_p S156 6 ((S156.1 6) + 1)) fun S180 =>
            mo_readNumber_l108 N n x1 x2 x3 (((10 * x4) + v156) - 48) (x5 + 1) S180
        else
          if x1 ≤ x5 then
            md_l (md_p S123 6 ((S123.1 6) + 1)) fun S180 =>
            mo_readNumber_l108 N n x1 x2 x3 x4 (x5 + 1) S180
          else
            md_b (mo_at (S123.1 6) S123) fun v156 S156 =>
            md_l (md_p S156 6 ((S156.1 6) + 1)) fun S180 =>
            mo_readNumber_l108 N n x1 x2 x3 (((10 * x4) + v156) - 48) (x5 + 1) S180
theorem ro_readNumber_l108 {l : Launch} {G : mv_G} {B : mv_H} {m N d : Nat} (hG : mv_ok G) (hm : G.2.2.1 ≤ m) : ∀ n : Nat, ∀ {x1 : Int32} {x2 : Int32} {x3 : Int32} {x4 : Int32} {x5 : Int32} {S : md_S} {q : (Int32 × md_S)}, mo_readNumber_l108 N n x1 x2 x3 x4 x5 S = some q → mv_rq l G mX13_readNumber (d + 2) 108 [some (.ref m), some (.int x1), some (.int x2), some (.int x3), some (.int x4), some (.int x5)] [] (md_H G B m S) (md_Q G B m q)
  | 0, _, _, _, _, _, _, _, hq => nomatch hq
  | n + 1, x1, x2, x3, x4, x5, S, q, hq => by
    rw [mo_readNumber_l108] at hq
    refine q_aload_n dX13_readNumber_108 rfl ?_
    obtain ⟨v109, S109, e109, hq⟩ := md_b_e hq
    refine q_cV (Y := mX13_good) (As := []) (st := []) (b := m) (ci := 15) vc_X13_good dX13_readNumber_109 ml_RX13_208 rfl md_obj rfl (Nat.le_of_ble_eq_true rfl) rfl (Nat.le_of_ble_eq_true rfl) (ro_good (d := d + 1) hG hm e109) (fun v h1 hq1 => ?_) (fun E h1 hq1 => md_nQ hq1)
    obtain ⟨hv, rfl⟩ := hq1
    cases hv
    show mv_rq l G mX13_readNumber (d + 2) 112 [some (.ref m), some (.int x1), some (.int x2), some (.int x3), some (.int x4), some (.int x5)] [.int v109] (md_H G B m S109) _
    refine q_if_eq (tgt := 186) dX13_readNumber_112 (by decide) (fun c112 => ?_) (fun c112 => ?_)
    ·
      have hq := md_pos c112 hq
      refine mv_weak (A := [none, none, none, some (.int x3), some (.int x4), none]) (by repeat' constructor) ?_
      exact ro_readNumber_j186 hG hm hq
    ·
      have hq := md_neg c112 hq
      refine q_aload_n dX13_readNumber_115 rfl ?_
      refine q_aload_n dX13_readNumber_116 rfl ?_
      refine r_geti 6 dX13_readNumber_117 fl_RX13_202 (by decide) rfl ki_6 ?_
      obtain ⟨v120, S120, e120, hq⟩ := md_b_e hq
      refine q_cV (Y := mX13_at) (As := [.int (S109.1 6)]) (st := []) (b := m) (ci := 15) vc_X13_at dX13_readNumber_120 ml_RX13_212 rfl md_obj rfl (Nat.le_of_ble_eq_true rfl) rfl (Nat.le_of_ble_eq_true rfl) (ro_at (d := d + 1) hG hm e120) (fun v h1 hq1 => ?_) (fun E h1 hq1 => md_nQ hq1)
      obtain ⟨hv, rfl⟩ := hq1
      cases hv
      show mv_rq l G mX13_readNumber (d + 2) 123 [some (.ref m), some (.int x1), some (.int x2), some (.int x3), some (.int x4), some (.int x5)] [.int v120] (md_H G B m S120) _
      obtain ⟨v123, S123, e123, hq⟩ := md_b_e hq
      refine q_cS (Y := mX13_isDigit) (As := [.int v120]) (st := []) sc_X13_isDigit dX13_readNumber_123 ml_RX13_231 rfl (Nat.le_of_ble_eq_true rfl) rfl (Nat.le_of_ble_eq_true rfl) (ro_isDigit (d := d + 1) hG hm e123) (fun v h1 hq1 => ?_) (fun E h1 hq1 => md_nQ hq1)
      obtain ⟨hv, rfl⟩ := hq1
      cases hv
      show mv_rq l G mX13_readNumber (d + 2) 126 [some (.ref m), some (.int x1), some (.int x2), some (.int x3), some (.int x4), some (.int x5)] [.int v123] (md_H G B m S123) _
      refine q_if_eq (tgt := 186) dX13_readNumber_126 (by decide) (fun c126 => ?_) (fun c126 => ?_)
      ·
        have hq := md_pos c126 hq
        refine mv_weak (A := [none, none, none, some (.int x3), some (.int x4), none]) (by repeat' constructor) ?_
        exact ro_readNumber_j186 hG hm hq
      ·
        have hq := md_neg c126 hq
        refine q_iload dX13_readNumber_129 rfl ?_
        refine q_iload_n dX13_readNumber_131 rfl ?_
        refine q_icmp_ne (tgt := 140) dX13_readNumber_132 (by decide) (fun c132 => ?_) (fun c132 => ?_)
        ·
          have hq := md_neg c132 hq
          refine q_iload dX13_readNumber_140 rfl ?_
          refine q_iload_n dX13_readNumber_142 rfl ?_
          refine q_icmp_ge (tgt := 166) dX13_readNumber_143 (by decide) (fun c143 => ?_) (fun c143 => ?_)
          ·
            have hq := md_pos c143 hq
            refine q_iload dX13_readNumber_166 rfl ?_
            refine q_istore dX13_readNumber_168 (Nat.le_of_ble_eq_true rfl) rfl ?_
            show mv_rq l G mX13_readNumber (d + 2) 170 [some (.ref m), some (.int x1), some (.int x2), some (.int x3), some (.int x4), some (.int x5)] [] (md_H G B m S123) _
            refine q_iinc dX13_readNumber_170 rfl rfl ?_
            show mv_rq l G mX13_readNumber (d + 2) 173 [some (.ref m), some (.int x1), some (.int x2), some (.int x3), some (.int x4), some (.int (x5 + 1))] [] (md_H G B m S123) _
            refine q_aload_n dX13_readNumber_173 rfl ?_
            refine q_dup dX13_readNumber_174 rfl ?_
            refine r_geti 6 dX13_readNumber_175 fl_RX13_202 (by decide) rfl ki_6 ?_
            refine q_iconst (v := 1) dX13_readNumber_178 (by decide) ?_
            refine q_iadd dX13_readNumber_179 ?_
            refine r_puti 6 .int dX13_readNumber_180 fl_RX13_202 (by decide) rfl ki_6 rfl kp_6 rfl rfl hm (fun S180 e180 => ?_)
            have hq := md_l_e e180 hq
            clear e180
            show mv_rq l G mX13_readNumber (d + 2) 183 [some (.ref m), some (.int x1), some (.int x2), some (.int x3), some (.int x4), some (.int (x5 + 1))] [] (md_H G B m S180) _
            refine q_goto (tgt := 108) dX13_readNumber_183 (by decide) ?_
            refine mv_weak (A := [some (.ref m), some (.int x1), some (.int x2), some (.int x3), some (.int x4), some (.int (x5 + 1))]) (by repeat' constructor) ?_
            exact ro_readNumber_l108 hG hm n hq
          ·
            have hq := md_neg c143 hq
            refine q_bipush (v := 10) dX13_readNumber_146 (by decide) ?_
            refine q_iload dX13_readNumber_148 rfl ?_
            refine q_imul dX13_readNumber_150 ?_
            refine q_aload_n dX13_readNumber_151 rfl ?_
            refine q_aload_n dX13_readNumber_152 rfl ?_
            refine r_geti 6 dX13_readNumber_153 fl_RX13_202 (by decide) rfl ki_6 ?_
            obtain ⟨v156, S156, e156, hq⟩ := md_b_e hq
            refine q_cV (Y := mX13_at) (As := [.int (S123.1 6)]) (st := [.int (10 * x4)]) (b := m) (ci := 15) vc_X13_at dX13_readNumber_156 ml_RX13_212 rfl md_obj rfl (Nat.le_of_ble_eq_true rfl) rfl (Nat.le_of_ble_eq_true rfl) (ro_at (d := d + 1) hG hm e156) (fun v h1 hq1 => ?_) (fun E h1 hq1 => md_nQ hq1)
            obtain ⟨hv, rfl⟩ := hq1
            cases hv
            show mv_rq l G mX13_readNumber (d + 2) 159 [some (.ref m), some (.int x1), some (.int x2), some (.int x3), some (.int x4), some (.int x5)] [.int v156, .int (10 * x4)] (md_H G B m S156) _
            refine q_iadd dX13_readNumber_159 ?_
            refine q_bipush (v := 48) dX13_readNumber_160 (by decide) ?_
            refine q_isub dX13_readNumber_162 ?_
            refine q_goto (tgt := 168) dX13_readNumber_163 (by decide) ?_
            refine q_istore dX13_readNumber_168 (Nat.le_of_ble_eq_true rfl) rfl ?_
            show mv_rq l G mX13_readNumber (d + 2) 170 [some (.ref m), some (.int x1), some (.int x2), some (.int x3), some (.int (((10 * x4) + v156) - 48)), some (.int x5)] [] (md_H G B m S156) _
            refine q_iinc dX13_readNumber_170 rfl rfl ?_
            show mv_rq l G mX13_readNumber (d + 2) 173 [some (.ref m), some (.int x1), some (.int x2), some (.int x3), some (.int (((10 * x4) + v156) - 48)), some (.int (x5 + 1))] [] (md_H G B m S156) _
            refine q_aload_n dX13_readNumber_173 rfl ?_
            refine q_dup dX13_readNumber_174 rfl ?_
            refine r_geti 6 dX13_readNumber_175 fl_RX13_202 (by decide) rfl ki_6 ?_
            refine q_iconst (v := 1) dX13_readNumber_178 (by decide) ?_
            refine q_iadd dX13_readNumber_179 ?_
            refine r_puti 6 .int dX13_readNumber_180 fl_RX13_202 (by decide) rfl ki_6 rfl kp_6 rfl rfl hm (fun S180 e180 => ?_)
            have hq := md_l_e e180 hq
            clear e180
            show mv_rq l G mX13_readNumber (d + 2) 183 [some (.ref m), some (.int x1), some (.int x2), some (.int x3), some (.int (((10 * x4) + v156) - 48)), some (.int (x5 + 1))] [] (md_H G B m S180) _
            refine q_goto (tgt := 108) dX13_readNumber_183 (by decide) ?_
            refine mv_weak (A := [some (.ref m), some (.int x1), some (.int x2), some (.int x3), some (.int (((10 * x4) + v156) - 48)), some (.int (x5 + 1))]) (by repeat' constructor) ?_
            exact ro_readNumber_l108 hG hm n hq
        ·
          have hq := md_pos c132 hq
          refine q_aload_n dX13_readNumber_135 rfl ?_
          refine q_iload_n dX13_readNumber_136 rfl ?_
          obtain ⟨S137, e137, hq⟩ := md_c_e hq
          refine q_cV (Y := mX13_fail) (As := [.int x2]) (st := []) (b := m) (ci := 15) vc_X13_fail dX13_readNumber_137 ml_RX13_216 rfl md_obj rfl (Nat.le_of_ble_eq_true rfl) rfl (Nat.le_of_ble_eq_true rfl) (ro_fail (d := d) hG hm e137) (fun v h1 hq1 => ?_) (fun E h1 hq1 => md_nV hq1)
          obtain ⟨hv, rfl⟩ := hq1
          cases hv
          show mv_rq l G mX13_readNumber (d + 2) 140 [some (.ref m), some (.int x1), some (.int x2), some (.int x3), some (.int x4), some (.int x5)] [] (md_H G B m S137) _
          refine q_iload dX13_readNumber_140 rfl ?_
          refine q_iload_n dX13_readNumber_142 rfl ?_
          refine q_icmp_ge (tgt := 166) dX13_readNumber_143 (by decide) (fun c143 => ?_) (fun c143 => ?_)
          ·
            have hq := md_pos c143 hq
            refine q_iload dX13_readNumber_166 rfl ?_
            refine q_istore dX13_readNumber_168 (Nat.le_of_ble_eq_true rfl) rfl ?_
            show mv_rq l G mX13_readNumber (d + 2) 170 [some (.ref m), some (.int x1), some (.int x2), some (.int x3), some (.int x4), some (.int x5)] [] (md_H G B m S137) _
            refine q_iinc dX13_readNumber_170 rfl rfl ?_
            show mv_rq l G mX13_readNumber (d + 2) 173 [some (.ref m), some (.int x1), some (.int x2), some (.int x3), some (.int x4), some (.int (x5 + 1))] [] (md_H G B m S137) _
            refine q_aload_n dX13_readNumber_173 rfl ?_
            refine q_dup dX13_readNumber_174 rfl ?_
            refine r_geti 6 dX13_readNumber_175 fl_RX13_202 (by decide) rfl ki_6 ?_
            refine q_iconst (v := 1) dX13_readNumber_178 (by decide) ?_
            refine q_iadd dX13_readNumber_179 ?_
            refine r_puti 6 .int dX13_readNumber_180 fl_RX13_202 (by decide) rfl ki_6 rfl kp_6 rfl rfl hm (fun S180 e180 => ?_)
            have hq := md_l_e e180 hq
            clear e180
            show mv_rq l G mX13_readNumber (d + 2) 183 [some (.ref m), some (.int x1), some (.int x2), some (.int x3), some (.int x4), some (.int (x5 + 1))] [] (md_H G B m S180) _
            refine q_goto (tgt := 108) dX13_readNumber_183 (by decide) ?_
            refine mv_weak (A := [some (.ref m), some (.int x1), some (.int x2), some (.int x3), some (.int x4), some (.int (x5 + 1))]) (by repeat' constructor) ?_
            exact ro_readNumber_l108 hG hm n hq
          ·
            have hq := md_neg c143 hq
            refine q_bipush (v := 10) dX13_readNumber_146 (by decide) ?_
            refine q_iload dX13_readNumber_148 rfl ?_
            refine q_imul dX13_readNumber_150 ?_
            refine q_aload_n dX13_readNumber_151 rfl ?_
            refine q_aload_n dX13_readNumber_152 rfl ?_
            refine r_geti 6 dX13_readNumber_153 fl_RX13_202 (by decide) rfl ki_6 ?_
            obtain ⟨v156, S156, e156, hq⟩ := md_b_e hq
            refine q_cV (Y := mX13_at) (As := [.int (S137.1 6)]) (st := [.int (10 * x4)]) (b := m) (ci := 15) vc_X13_at dX13_readNumber_156 ml_RX13_212 rfl md_obj rfl (Nat.le_of_ble_eq_true rfl) rfl (Nat.le_of_ble_eq_true rfl) (ro_at (d := d + 1) hG hm e156) (fun v h1 hq1 => ?_) (fun E h1 hq1 => md_nQ hq1)
            obtain ⟨hv, rfl⟩ := hq1
            cases hv
            show mv_rq l G mX13_readNumber (d + 2) 159 [some (.ref m), some (.int x1), some (.int x2), some (.int x3), some (.int x4), some (.int x5)] [.int v156, .int (10 * x4)] (md_H G B m S156) _
            refine q_iadd dX13_readNumber_159 ?_
            refine q_bipush (v := 48) dX13_readNumber_160 (by decide) ?_
            refine q_isub dX13_readNumber_162 ?_
            refine q_goto (tgt := 168) dX13_readNumber_163 (by decide) ?_
            refine q_istore dX13_readNumber_168 (Nat.le_of_ble_eq_true rfl) rfl ?_
            show mv_rq l G mX13_readNumber (d + 2) 170 [some (.ref m), some (.int x1), some (.int x2), some (.int x3), some (.int (((10 * x4) + v156) - 48)), some (.int x5)] [] (md_H G B m S156) _
            refine q_iinc dX13_readNumber_170 rfl rfl ?_
            show mv_rq l G mX13_readNumber (d + 2) 173 [some (.ref m), some (.int x1), some (.int x2), some (.int x3), some (.int (((10 * x4) + v156) - 48)), some (.int (x5 + 1))] [] (md_H G B m S156) _
            refine q_aload_n dX13_readNumber_173 rfl ?_
            refine q_dup dX13_readNumber_174 rfl ?_
            refine r_geti 6 dX13_readNumber_175 fl_RX13_202 (by decide) rfl ki_6 ?_
            refine q_iconst (v := 1) dX13_readNumber_178 (by decide) ?_
            refine q_iadd dX13_readNumber_179 ?_
            refine r_puti 6 .int dX13_readNumber_180 fl_RX13_202 (by decide) rfl ki_6 rfl kp_6 rfl rfl hm (fun S180 e180 => ?_)
            have hq := md_l_e e180 hq
            clear e180
            show mv_rq l G mX13_readNumber (d + 2) 183 [some (.ref m), some (.int x1), some (.int x2), some (.int x3), some (.int (((10 * x4) + v156) - 48)), some (.int (x5 + 1))] [] (md_H G B m S180) _
            refine q_goto (tgt := 108) dX13_readNumber_183 (by decide) ?_
            refine mv_weak (A := [some (.ref m), some (.int x1), some (.int x2), some (.int x3), some (.int (((10 * x4) + v156) - 48)), some (.int (x5 + 1))]) (by repeat' constructor) ?_
            exact ro_readNumber_l108 hG hm n hq
def mo_readNumber_j100 (N : Nat) (x1 : Int32) (x2 : Int32) (x3 : Int32) (x4 : Int32) (x5 : Int32) (S : md_S) : Option (Int32 × md_S) :=
  md_c (mo_fail (S.1 6) S) fun S105 =>
  mo_readNumber_l108 N N x1 x2 x3 x4 x5 S105
theorem ro_readNumber_j100 {l : Launch} {G : mv_G} {B : mv_H} {m N d : Nat} (hG : mv_ok G) (hm : G.2.2.1 ≤ m) {x1 : Int32} {x2 : Int32} {x3 : Int32} {x4 : Int32} {x5 : Int32} {S : md_S} {q : (Int32 × md_S)} (hq : mo_readNumber_j100 N x1 x2 x3 x4 x5 S = some q) : mv_rq l G mX13_readNumber (d + 2) 100 [some (.ref m), some (.int x1), some (.int x2), some (.int x3), some (.int x4), some (.int x5)] [] (md_H G B m S) (md_Q G B m q) := by
  unfold mo_readNumber_j100 at hq
  refine q_aload_n dX13_readNumber_100 rfl ?_
  refine q_aload_n dX13_readNumber_101 rfl ?_
  refine r_geti 6 dX13_readNumber_102 fl_RX13_202 (by decide) rfl ki_6 ?_
  obtain ⟨S105, e105, hq⟩ := md_c_e hq
  refine q_cV (Y := mX13_fail) (As := [.int (S.1 6)]) (st := []) (b := m) (ci := 15) vc_X13_fail dX13_readNumber_105 ml_RX13_216 rfl md_obj rfl (Nat.le_of_ble_eq_true rfl) rfl (Nat.le_of_ble_eq_true rfl) (ro_fail (d := d) hG hm e105) (fun v h1 hq1 => ?_) (fun E h1 hq1 => md_nV hq1)
  obtain ⟨hv, rfl⟩ := hq1
  cases hv
  show mv_rq l G mX13_readNumber (d + 2) 108 [some (.ref m), some (.int x1), some (.int x2), some (.int x3), some (.int x4), some (.int x5)] [] (md_H G B m S105) _
  refine mv_weak (A := [some (.ref m), some (.int x1), some (.int x2), some (.int x3), some (.int x4), some (.int x5)]) (by repeat' constructor) ?_
  exact ro_readNumber_l108 hG hm N hq
def mo_readNumber_j73 (N : Nat) (x1 : Int32) (x2 : Int32) (x3 : Int32) (x4 : Int32) (x5 : Int32) (S : md_S) : Option (Int32 × md_S) :=
  md_b (mo_at (S.1 6) S) fun v78 S78 =>
  md_b (mo_isDigit v78 S78) fun v81 S81 =>
  if v81 = 0 then
    mo_readNumber_j100 N x1 x2 x3 x4 x5 S81
  else
    md_b (mo_at (S81.1 6) S81) fun v92 S92 =>
    if v92 = 48 then
      mo_readNumber_j100 N x1 x2 x3 x4 x5 S92
    else
      mo_readNumber_l108 N N x1 x2 x3 x4 x5 S92
theorem ro_readNumber_j73 {l : Launch} {G : mv_G} {B : mv_H} {m N d : Nat} (hG : mv_ok G) (hm : G.2.2.1 ≤ m) {x1 : Int32} {x2 : Int32} {x3 : Int32} {x4 : Int32} {x5 : Int32} {S : md_S} {q : (Int32 × md_S)} (hq : mo_readNumber_j73 N x1 x2 x3 x4 x5 S = some q) : mv_rq l G mX13_readNumber (d + 2) 73 [some (.ref m), some (.int x1), some (.int x2), some (.int x3), some (.int x4), some (.int x5)] [] (md_H G B m S) (md_Q G B m q) := by
  unfold mo_readNumber_j73 at hq
  refine q_aload_n dX13_readNumber_73 rfl ?_
  refine q_aload_n dX13_readNumber_74 rfl ?_
  refine r_geti 6 dX13_readNumber_75 fl_RX13_202 (by decide) rfl ki_6 ?_
  obtain ⟨v78, S78, e78, hq⟩ := md_b_e hq
  refine q_cV (Y := mX13_at) (As := [.int (S.1 6)]) (st := []) (b := m) (ci := 15) vc_X13_at dX13_readNumber_78 ml_RX13_212 rfl md_obj rfl (Nat.le_of_ble_eq_true rfl) rfl (Nat.le_of_ble_eq_true rfl) (ro_at (d := d + 1) hG hm e78) (fun v h1 hq1 => ?_) (fun E h1 hq1 => md_nQ hq1)
  obtain ⟨hv, rfl⟩ := hq1
  cases hv
  show mv_rq l G mX13_readNumber (d + 2) 81 [some (.ref m), some (.int x1), some (.int x2), some (.int x3), some (.int x4), some (.int x5)] [.int v78] (md_H G B m S78) _
  obtain ⟨v81, S81, e81, hq⟩ := md_b_e hq
  refine q_cS (Y := mX13_isDigit) (As := [.int v78]) (st := []) sc_X13_isDigit dX13_readNumber_81 ml_RX13_231 rfl (Nat.le_of_ble_eq_true rfl) rfl (Nat.le_of_ble_eq_true rfl) (ro_isDigit (d := d + 1) hG hm e81) (fun v h1 hq1 => ?_) (fun E h1 hq1 => md_nQ hq1)
  obtain ⟨hv, rfl⟩ := hq1
  cases hv
  show mv_rq l G mX13_readNumber (d + 2) 84 [some (.ref m), some (.int x1), some (.int x2), some (.int x3), some (.int x4), some (.int x5)] [.int v81] (md_H G B m S81) _
  refine q_if_eq (tgt := 100) dX13_readNumber_84 (by decide) (fun c84 => ?_) (fun c84 => ?_)
  ·
    have hq := md_pos c84 hq
    refine mv_weak (A := [some (.ref m), some (.int x1), some (.int x2), some (.int x3), some (.int x4), some (.int x5)]) (by repeat' constructor) ?_
    exact ro_readNumber_j100 hG hm hq
  ·
    have hq := md_neg c84 hq
    refine q_aload_n dX13_readNumber_87 rfl ?_
    refine q_aload_n dX13_readNumber_88 rfl ?_
    refine r_geti 6 dX13_readNumber_89 fl_RX13_202 (by decide) rfl ki_6 ?_
    obtain ⟨v92, S92, e92, hq⟩ := md_b_e hq
    refine q_cV (Y := mX13_at) (As := [.int (S81.1 6)]) (st := []) (b := m) (ci := 15) vc_X13_at dX13_readNumber_92 ml_RX13_212 rfl md_obj rfl (Nat.le_of_ble_eq_true rfl) rfl (Nat.le_of_ble_eq_true rfl) (ro_at (d := d + 1) hG hm e92) (fun v h1 hq1 => ?_) (fun E h1 hq1 => md_nQ hq1)
    obtain ⟨hv, rfl⟩ := hq1
    cases hv
    show mv_rq l G mX13_readNumber (d + 2) 95 [some (.ref m), some (.int x1), some (.int x2), some (.int x3), some (.int x4), some (.int x5)] [.int v92] (md_H G B m S92) _
    refine q_bipush (v := 48) dX13_readNumber_95 (by decide) ?_
    refine q_icmp_ne (tgt := 108) dX13_readNumber_97 (by decide) (fun c97 => ?_) (fun c97 => ?_)
    ·
      have hq := md_neg c97 hq
      refine mv_weak (A := [some (.ref m), some (.int x1), some (.int x2), some (.int x3), some (.int x4), some (.int x5)]) (by repeat' constructor) ?_
      exact ro_readNumber_l108 hG hm N hq
    ·
      have hq := md_pos c97 hq
      refine mv_weak (A := [some (.ref m), some (.int x1), some (.int x2), some (.int x3), some (.int x4), some (.int x5)]) (by repeat' constructor) ?_
      exact ro_readNumber_j100 hG hm hq
def mo_readNumber_j38 (N : Nat) (x1 : Int32) (x2 : Int32) (x3 : Int32) (S : md_S) : Option (Int32 × md_S) :=
  md_b (mo_at (S.1 6) S) fun v49 S49 =>
  if v49 = 48 then
    if x3 = 0 then
      md_l (md_p S49 6 ((S49.1 6) + 1)) fun S68 =>
      some (0, S68)
    else
      mo_readNumber_j73 N x1 x2 x3 0 0 S49
  else
    mo_readNumber_j73 N x1 x2 x3 0 0 S49
theorem ro_readNumber_j38 {l : Launch} {G : mv_G} {B : mv_H} {m N d : Nat} (hG : mv_ok G) (hm : G.2.2.1 ≤ m) {x1 : Int32} {x2 : Int32} {x3 : Int32} {S : md_S} {q : (Int32 × md_S)} (hq : mo_readNumber_j38 N x1 x2 x3 S = some q) : mv_rq l G mX13_readNumber (d + 2) 38 [some (.ref m), some (.int x1), some (.int x2), some (.int x3), none, none] [] (md_H G B m S) (md_Q G B m q) := by
  unfold mo_readNumber_j38 at hq
  refine q_iconst (v := 0) dX13_readNumber_38 (by decide) ?_
  refine q_istore dX13_readNumber_39 (Nat.le_of_ble_eq_true rfl) rfl ?_
  show mv_rq l G mX13_readNumber (d + 2) 41 [some (.ref m), some (.int x1), some (.int x2), some (.int x3), some (.int 0), none] [] (md_H G B m S) _
  refine q_iconst (v := 0) dX13_readNumber_41 (by decide) ?_
  refine q_istore dX13_readNumber_42 (Nat.le_of_ble_eq_true rfl) rfl ?_
  show mv_rq l G mX13_readNumber (d + 2) 44 [some (.ref m), some (.int x1), some (.int x2), some (.int x3), some (.int 0), some (.int 0)] [] (md_H G B m S) _
  refine q_aload_n dX13_readNumber_44 rfl ?_
  refine q_aload_n dX13_readNumber_45 rfl ?_
  refine r_geti 6 dX13_readNumber_46 fl_RX13_202 (by decide) rfl ki_6 ?_
  obtain ⟨v49, S49, e49, hq⟩ := md_b_e hq
  refine q_cV (Y := mX13_at) (As := [.int (S.1 6)]) (st := []) (b := m) (ci := 15) vc_X13_at dX13_readNumber_49 ml_RX13_212 rfl md_obj rfl (Nat.le_of_ble_eq_true rfl) rfl (Nat.le_of_ble_eq_true rfl) (ro_at (d := d + 1) hG hm e49) (fun v h1 hq1 => ?_) (fun E h1 hq1 => md_nQ hq1)
  obtain ⟨hv, rfl⟩ := hq1
  cases hv
  show mv_rq l G mX13_readNumber (d + 2) 52 [some (.ref m), some (.int x1), some (.int x2), some (.int x3), some (.int 0), some (.int 0)] [.int v49] (md_H G B m S49) _
  refine q_bipush (v := 48) dX13_readNumber_52 (by decide) ?_
  refine q_icmp_ne (tgt := 73) dX13_readNumber_54 (by decide) (fun c54 => ?_) (fun c54 => ?_)
  ·
    have hq := md_neg c54 hq
    refine mv_weak (A := [some (.ref m), some (.int x1), some (.int x2), some (.int x3), some (.int 0), some (.int 0)]) (by repeat' constructor) ?_
    exact ro_readNumber_j73 hG hm hq
  ·
    have hq := md_pos c54 hq
    refine q_iload_n dX13_readNumber_57 rfl ?_
    refine q_if_ne (tgt := 73) dX13_readNumber_58 (by decide) (fun c58 => ?_) (fun c58 => ?_)
    ·
      have hq := md_neg c58 hq
      refine mv_weak (A := [some (.ref m), some (.int x1), some (.int x2), some (.int x3), some (.int 0), some (.int 0)]) (by repeat' constructor) ?_
      exact ro_readNumber_j73 hG hm hq
    ·
      have hq := md_pos c58 hq
      refine q_aload_n dX13_readNumber_61 rfl ?_
      refine q_dup dX13_readNumber_62 rfl ?_
      refine r_geti 6 dX13_readNumber_63 fl_RX13_202 (by decide) rfl ki_6 ?_
      refine q_iconst (v := 1) dX13_readNumber_66 (by decide) ?_
      refine q_iadd dX13_readNumber_67 ?_
      refine r_puti 6 .int dX13_readNumber_68 fl_RX13_202 (by decide) rfl ki_6 rfl kp_6 rfl rfl hm (fun S68 e68 => ?_)
      have hq := md_l_e e68 hq
      clear e68
      show mv_rq l G mX13_readNumber (d + 2) 71 [some (.ref m), some (.int x1), some (.int x2), some (.int x3), some (.int 0), some (.int 0)] [] (md_H G B m S68) _
      refine q_iconst (v := 0) dX13_readNumber_71 (by decide) ?_
      obtain rfl := Option.some.inj hq
      exact q_iret (ty := .int) dX13_readNumber_72 rfl rfl ⟨rfl, rfl⟩
def mo_readNumber_j23 (N : Nat) (x1 : Int32) (x2 : Int32) (y0 : Int32) (S : md_S) : Option (Int32 × md_S) :=
  if y0 = 0 then
    mo_readNumber_j38 N x1 x2 y0 S
  else
    md_l (md_p S 6 ((S.1 6) + 1)) fun S35 =>
    mo_readNumber_j38 N x1 x2 y0 S35
theorem ro_readNumber_j23 {l : Launch} {G : mv_G} {B : mv_H} {m N d : Nat} (hG : mv_ok G) (hm : G.2.2.1 ≤ m) {x1 : Int32} {x2 : Int32} {y0 : Int32} {S : md_S} {q : (Int32 × md_S)} (hq : mo_readNumber_j23 N x1 x2 y0 S = some q) : mv_rq l G mX13_readNumber (d + 2) 23 [some (.ref m), some (.int x1), some (.int x2), none, none, none] [.int y0] (md_H G B m S) (md_Q G B m q) := by
  unfold mo_readNumber_j23 at hq
  refine q_istore_n dX13_readNumber_23 (Nat.le_of_ble_eq_true rfl) rfl ?_
  show mv_rq l G mX13_readNumber (d + 2) 24 [some (.ref m), some (.int x1), some (.int x2), some (.int y0), none, none] [] (md_H G B m S) _
  refine q_iload_n dX13_readNumber_24 rfl ?_
  refine q_if_eq (tgt := 38) dX13_readNumber_25 (by decide) (fun c25 => ?_) (fun c25 => ?_)
  ·
    have hq := md_pos c25 hq
    refine mv_weak (A := [some (.ref m), some (.int x1), some (.int x2), some (.int y0), none, none]) (by repeat' constructor) ?_
    exact ro_readNumber_j38 hG hm hq
  ·
    have hq := md_neg c25 hq
    refine q_aload_n dX13_readNumber_28 rfl ?_
    refine q_dup dX13_readNumber_29 rfl ?_
    refine r_geti 6 dX13_readNumber_30 fl_RX13_202 (by decide) rfl ki_6 ?_
    refine q_iconst (v := 1) dX13_readNumber_33 (by decide) ?_
    refine q_iadd dX13_readNumber_34 ?_
    refine r_puti 6 .int dX13_readNumber_35 fl_RX13_202 (by decide) rfl ki_6 rfl kp_6 rfl rfl hm (fun S35 e35 => ?_)
    have hq := md_l_e e35 hq
    clear e35
    show mv_rq l G mX13_readNumber (d + 2) 38 [some (.ref m), some (.int x1), some (.int x2), some (.int y0), none, none] [] (md_H G B m S35) _
    refine mv_weak (A := [some (.ref m), some (.int x1), some (.int x2), some (.int y0), none, none]) (by repeat' constructor) ?_
    exact ro_readNumber_j38 hG hm hq
def mo_readNumber (N : Nat) (x1 : Int32) (S : md_S) : Option (Int32 × md_S) :=
  md_b (mo_at (S.1 6) S) fun v10 S10 =>
  if v10 = 45 then
    mo_readNumber_j23 N x1 (S.1 6) 1 S10
  else
    mo_readNumber_j23 N x1 (S.1 6) 0 S10
theorem ro_readNumber {l : Launch} {G : mv_G} {B : mv_H} {m N d : Nat} (hG : mv_ok G) (hm : G.2.2.1 ≤ m) {x1 : Int32} {S : md_S} {q : (Int32 × md_S)} (hq : mo_readNumber N x1 S = some q) : mv_rq l G mX13_readNumber (d + 2) 0 (mv_in [.ref m, .int x1] 6) [] (md_H G B m S) (md_Q G B m q) := by
  unfold mo_readNumber at hq
  show mv_rq l G mX13_readNumber (d + 2) 0 [some (.ref m), some (.int x1), none, none, none, none] [] (md_H G B m S) _
  refine q_aload_n dX13_readNumber_0 rfl ?_
  refine r_geti 6 dX13_readNumber_1 fl_RX13_202 (by decide) rfl ki_6 ?_
  refine q_istore_n dX13_readNumber_4 (Nat.le_of_ble_eq_true rfl) rfl ?_
  show mv_rq l G mX13_readNumber (d + 2) 5 [some (.ref m), some (.int x1), some (.int (S.1 6)), none, none, none] [] (md_H G B m S) _
  refine q_aload_n dX13_readNumber_5 rfl ?_
  refine q_aload_n dX13_readNumber_6 rfl ?_
  refine r_geti 6 dX13_readNumber_7 fl_RX13_202 (by decide) rfl ki_6 ?_
  obtain ⟨v10, S10, e10, hq⟩ := md_b_e hq
  refine q_cV (Y := mX13_at) (As := [.int (S.1 6)]) (st := []) (b := m) (ci := 15) vc_X13_at dX13_readNumber_10 ml_RX13_212 rfl md_obj rfl (Nat.le_of_ble_eq_true rfl) rfl (Nat.le_of_ble_eq_true rfl) (ro_at (d := d + 1) hG hm e10) (fun v h1 hq1 => ?_) (fun E h1 hq1 => md_nQ hq1)
  obtain ⟨hv, rfl⟩ := hq1
  cases hv
  show mv_rq l G mX13_readNumber (d + 2) 13 [some (.ref m), some (.int x1), some (.int (S.1 6)), none, none, none] [.int v10] (md_H G B m S10) _
  refine q_bipush (v := 45) dX13_readNumber_13 (by decide) ?_
  refine q_icmp_ne (tgt := 22) dX13_readNumber_15 (by decide) (fun c15 => ?_) (fun c15 => ?_)
  ·
    have hq := md_neg c15 hq
    refine q_iconst (v := 0) dX13_readNumber_22 (by decide) ?_
    refine mv_weak (A := [some (.ref m), some (.int x1), some (.int (S.1 6)), none, none, none]) (by repeat' constructor) ?_
    exact ro_readNumber_j23 hG hm hq
  ·
    have hq := md_pos c15 hq
    refine q_iconst (v := 1) dX13_readNumber_18 (by decide) ?_
    refine q_goto (tgt := 23) dX13_readNumber_19 (by decide) ?_
    refine mv_weak (A := [some (.ref m), some (.int x1), some (.int (S.1 6)), none, none, none]) (by repeat' constructor) ?_
    exact ro_readNumber_j23 hG hm hq
def mo_blanks_l0 (N : Nat) : Nat → md_S → Option md_S
  | 0, _ => none
  | n + 1, S =>
    md_b (mo_at (S.1 6) S) fun v5 S5 =>
    if v5 = 32 then
      md_l (md_p S5 6 ((S5.1 6) + 1)) fun S20 =>
      mo_blanks_l0 N n  S20
    else
      some S5
theorem ro_blanks_l0 {l : Launch} {G : mv_G} {B : mv_H} {m N d : Nat} (hG : mv_ok G) (hm : G.2.2.1 ≤ m) : ∀ n : Nat, ∀ {S : md_S} {q : md_S}, mo_blanks_l0 N n  S = some q → mv_rq l G mX13_blanks (d + 1) 0 [some (.ref m)] [] (md_H G B m S) (md_V G B m q)
  | 0, _, _, hq => nomatch hq
  | n + 1, S, q, hq => by
    rw [mo_blanks_l0] at hq
    refine q_aload_n dX13_blanks_0 rfl ?_
    refine q_aload_n dX13_blanks_1 rfl ?_
    refine r_geti 6 dX13_blanks_2 fl_RX13_202 (by decide) rfl ki_6 ?_
    obtain ⟨v5, S5, e5, hq⟩ := md_b_e hq
    refine q_cV (Y := mX13_at) (As := [.int (S.1 6)]) (st := []) (b := m) (ci := 15) vc_X13_at dX13_blanks_5 ml_RX13_212 rfl md_obj rfl (Nat.le_of_ble_eq_true rfl) rfl (Nat.le_of_ble_eq_true rfl) (ro_at (d := d) hG hm e5) (fun v h1 hq1 => ?_) (fun E h1 hq1 => md_nQ hq1)
    obtain ⟨hv, rfl⟩ := hq1
    cases hv
    show mv_rq l G mX13_blanks (d + 1) 8 [some (.ref m)] [.int v5] (md_H G B m S5) _
    refine q_bipush (v := 32) dX13_blanks_8 (by decide) ?_
    refine q_icmp_ne (tgt := 26) dX13_blanks_10 (by decide) (fun c10 => ?_) (fun c10 => ?_)
    ·
      have hq := md_neg c10 hq
      obtain rfl := Option.some.inj hq
      exact q_vret dX13_blanks_26 rfl ⟨rfl, rfl⟩
    ·
      have hq := md_pos c10 hq
      refine q_aload_n dX13_blanks_13 rfl ?_
      refine q_dup dX13_blanks_14 rfl ?_
      refine r_geti 6 dX13_blanks_15 fl_RX13_202 (by decide) rfl ki_6 ?_
      refine q_iconst (v := 1) dX13_blanks_18 (by decide) ?_
      refine q_iadd dX13_blanks_19 ?_
      refine r_puti 6 .int dX13_blanks_20 fl_RX13_202 (by decide) rfl ki_6 rfl kp_6 rfl rfl hm (fun S20 e20 => ?_)
      have hq := md_l_e e20 hq
      clear e20
      show mv_rq l G mX13_blanks (d + 1) 23 [some (.ref m)] [] (md_H G B m S20) _
      refine q_goto (tgt := 0) dX13_blanks_23 (by decide) ?_
      refine mv_weak (A := [some (.ref m)]) (by repeat' constructor) ?_
      exact ro_blanks_l0 hG hm n hq
def mo_blanks (N : Nat) (S : md_S) : Option md_S :=
  mo_blanks_l0 N N  S
theorem ro_blanks {l : Launch} {G : mv_G} {B : mv_H} {m N d : Nat} (hG : mv_ok G) (hm : G.2.2.1 ≤ m) {S : md_S} {q : md_S} (hq : mo_blanks N S = some q) : mv_rq l G mX13_blanks (d + 1) 0 (mv_in [.ref m] 1) [] (md_H G B m S) (md_V G B m q) := by
  unfold mo_blanks at hq
  show mv_rq l G mX13_blanks (d + 1) 0 [some (.ref m)] [] (md_H G B m S) _
  refine mv_weak (A := [some (.ref m)]) (by repeat' constructor) ?_
  exact ro_blanks_l0 hG hm N hq
def mo_top_j22 (y0 : Int32) (S : md_S) : Option (Int32 × md_S) :=
  some (y0, S)
theorem ro_top_j22 {l : Launch} {G : mv_G} {B : mv_H} {m d : Nat} (hG : mv_ok G) (hm : G.2.2.1 ≤ m) {y0 : Int32} {S : md_S} {q : (Int32 × md_S)} (hq : mo_top_j22 y0 S = some q) : mv_rq l G mX13_top d 22 [none] [.int y0] (md_H G B m S) (md_Q G B m q) := by
  unfold mo_top_j22 at hq
  obtain rfl := Option.some.inj hq
  exact q_iret (ty := .int) dX13_top_22 rfl rfl ⟨rfl, rfl⟩
def mo_top (S : md_S) : Option (Int32 × md_S) :=
  if (S.1 21) = 0 then
    mo_top_j22 (-1) S
  else
    if md_in ((S.1 21) - 1) 8 then
    mo_top_j22 (S.2 20 ((S.1 21) - 1).toNatClampNeg) S
    else none
theorem ro_top {l : Launch} {G : mv_G} {B : mv_H} {m d : Nat} (hG : mv_ok G) (hm : G.2.2.1 ≤ m) {S : md_S} {q : (Int32 × md_S)} (hq : mo_top S = some q) : mv_rq l G mX13_top d 0 (mv_in [.ref m] 1) [] (md_H G B m S) (md_Q G B m q) := by
  unfold mo_top at hq
  show mv_rq l G mX13_top d 0 [some (.ref m)] [] (md_H G B m S) _
  refine q_aload_n dX13_top_0 rfl ?_
  refine r_geti 21 dX13_top_1 fl_RX13_235 (by decide) rfl ki_21 ?_
  refine q_if_ne (tgt := 11) dX13_top_4 (by decide) (fun c4 => ?_) (fun c4 => ?_)
  ·
    have hq := md_neg c4 hq
    refine q_aload_n dX13_top_11 rfl ?_
    refine r_geta 20 dX13_top_12 fl_RX13_48 (by decide) rfl kk_20 ?_
    refine q_aload_n dX13_top_15 rfl ?_
    refine r_geti 21 dX13_top_16 fl_RX13_235 (by decide) rfl ki_21 ?_
    refine q_iconst (v := 1) dX13_top_19 (by decide) ?_
    refine q_isub dX13_top_20 ?_
    obtain ⟨g21, hq⟩ := md_g hq
    refine r_iald hG 20 dX13_top_21 kk_20 g21 ?_
    refine mv_weak (A := [none]) (by repeat' constructor) ?_
    exact ro_top_j22 hG hm hq
  ·
    have hq := md_pos c4 hq
    refine q_iconst (v := (-1)) dX13_top_7 (by decide) ?_
    refine q_goto (tgt := 22) dX13_top_8 (by decide) ?_
    refine mv_weak (A := [none]) (by repeat' constructor) ?_
    exact ro_top_j22 hG hm hq
def mo_finish (x1 : Int32) (S : md_S) : Option md_S :=
  if md_in x1 41 then
  md_l (md_w S 16 x1.toNatClampNeg (S.1 6)) fun S9 =>
  if md_in x1 41 then
  md_l (md_w S9 14 x1.toNatClampNeg ((S9.1 10) - 1)) fun S21 =>
  some S21
  else none
  else none
theorem ro_finish {l : Launch} {G : mv_G} {B : mv_H} {m d : Nat} (hG : mv_ok G) (hm : G.2.2.1 ≤ m) {x1 : Int32} {S : md_S} {q : md_S} (hq : mo_finish x1 S = some q) : mv_rq l G mX13_finish d 0 (mv_in [.ref m, .int x1] 2) [] (md_H G B m S) (md_V G B m q) := by
  unfold mo_finish at hq
  show mv_rq l G mX13_finish d 0 [some (.ref m), some (.int x1)] [] (md_H G B m S) _
  refine q_aload_n dX13_finish_0 rfl ?_
  refine r_geta 16 dX13_finish_1 fl_RX13_36 (by decide) rfl kk_16 ?_
  refine q_iload_n dX13_finish_4 rfl ?_
  refine q_aload_n dX13_finish_5 rfl ?_
  refine r_geti 6 dX13_finish_6 fl_RX13_202 (by decide) rfl ki_6 ?_
  obtain ⟨g9, hq⟩ := md_g hq
  refine r_iast hG hm 16 dX13_finish_9 kk_16 g9 (fun S9 e9 => ?_)
  have hq := md_l_e e9 hq
  clear e9
  show mv_rq l G mX13_finish d 10 [some (.ref m), some (.int x1)] [] (md_H G B m S9) _
  refine q_aload_n dX13_finish_10 rfl ?_
  refine r_geta 14 dX13_finish_11 fl_RX13_30 (by decide) rfl kk_14 ?_
  refine q_iload_n dX13_finish_14 rfl ?_
  refine q_aload_n dX13_finish_15 rfl ?_
  refine r_geti 10 dX13_finish_16 fl_RX13_238 (by decide) rfl ki_10 ?_
  refine q_iconst (v := 1) dX13_finish_19 (by decide) ?_
  refine q_isub dX13_finish_20 ?_
  obtain ⟨g21, hq⟩ := md_g hq
  refine r_iast hG hm 14 dX13_finish_21 kk_14 g21 (fun S21 e21 => ?_)
  have hq := md_l_e e21 hq
  clear e21
  show mv_rq l G mX13_finish d 22 [some (.ref m), some (.int x1)] [] (md_H G B m S21) _
  obtain rfl := Option.some.inj hq
  exact q_vret dX13_finish_22 rfl ⟨rfl, rfl⟩
def mo_readValue_j341 (N : Nat) (x1 : Int32) (S : md_S) : Option md_S :=
  md_l (md_p S 10 ((S.1 10) + 1)) fun S348 =>
  md_c (mo_finish x1 S348) fun S353 =>
  some S353
theorem ro_readValue_j341 {l : Launch} {G : mv_G} {B : mv_H} {m N d : Nat} (hG : mv_ok G) (hm : G.2.2.1 ≤ m) {x1 : Int32} {S : md_S} {q : md_S} (hq : mo_readValue_j341 N x1 S = some q) : mv_rq l G mX13_readValue (d + 4) 341 [some (.ref m), some (.int x1), none, none] [] (md_H G B m S) (md_V G B m q) := by
  unfold mo_readValue_j341 at hq
  refine q_aload_n dX13_readValue_341 rfl ?_
  refine q_dup dX13_readValue_342 rfl ?_
  refine r_geti 10 dX13_readValue_343 fl_RX13_238 (by decide) rfl ki_10 ?_
  refine q_iconst (v := 1) dX13_readValue_346 (by decide) ?_
  refine q_iadd dX13_readValue_347 ?_
  refine r_puti 10 .int dX13_readValue_348 fl_RX13_238 (by decide) rfl ki_10 rfl kp_10 rfl rfl hm (fun S348 e348 => ?_)
  have hq := md_l_e e348 hq
  clear e348
  show mv_rq l G mX13_readValue (d + 4) 351 [some (.ref m), some (.int x1), none, none] [] (md_H G B m S348) _
  refine q_aload_n dX13_readValue_351 rfl ?_
  refine q_iload_n dX13_readValue_352 rfl ?_
  obtain ⟨S353, e353, hq⟩ := md_c_e hq
  refine q_cV (Y := mX13_finish) (As := [.int x1]) (st := []) (b := m) (ci := 15) vc_X13_finish dX13_readValue_353 ml_RX13_268 rfl md_obj rfl (Nat.le_of_ble_eq_true rfl) rfl (Nat.le_of_ble_eq_true rfl) (ro_finish (d := d + 3) hG hm e353) (fun v h1 hq1 => ?_) (fun E h1 hq1 => md_nV hq1)
  obtain ⟨hv, rfl⟩ := hq1
  cases hv
  show mv_rq l G mX13_readValue (d + 4) 356 [some (.ref m), some (.int x1), none, none] [] (md_H G B m S353) _
  obtain rfl := Option.some.inj hq
  exact q_vret dX13_readValue_356 rfl ⟨rfl, rfl⟩
def mo_readValue_j239 (N : Nat) (x1 : Int32) (S : md_S) : Option md_S :=
  if md_in x1 41 then
  md_l (md_w S 12 x1.toNatClampNeg 3) fun S245 =>
  md_b (mo_readNumber N 6 S245) fun v254 S254 =>
  if md_in x1 41 then
  md_l (md_w S254 17 x1.toNatClampNeg v254) fun S257 =>
  mo_readValue_j341 N x1 S257
  else none
  else none
theorem ro_readValue_j239 {l : Launch} {G : mv_G} {B : mv_H} {m N d : Nat} (hG : mv_ok G) (hm : G.2.2.1 ≤ m) {x1 : Int32} {S : md_S} {q : md_S} (hq : mo_readValue_j239 N x1 S = some q) : mv_rq l G mX13_readValue (d + 4) 239 [some (.ref m), some (.int x1), none, none] [] (md_H G B m S) (md_V G B m q) := by
  unfold mo_readValue_j239 at hq
  refine q_aload_n dX13_readValue_239 rfl ?_
  refine r_geta 12 dX13_readValue_240 fl_RX13_23 (by decide) rfl kk_12 ?_
  refine q_iload_n dX13_readValue_243 rfl ?_
  refine q_iconst (v := 3) dX13_readValue_244 (by decide) ?_
  obtain ⟨g245, hq⟩ := md_g hq
  refine r_iast hG hm 12 dX13_readValue_245 kk_12 g245 (fun S245 e245 => ?_)
  have hq := md_l_e e245 hq
  clear e245
  show mv_rq l G mX13_readValue (d + 4) 246 [some (.ref m), some (.int x1), none, none] [] (md_H G B m S245) _
  refine q_aload_n dX13_readValue_246 rfl ?_
  refine r_geta 17 dX13_readValue_247 fl_RX13_39 (by decide) rfl kk_17 ?_
  refine q_iload_n dX13_readValue_250 rfl ?_
  refine q_aload_n dX13_readValue_251 rfl ?_
  refine q_bipush (v := 6) dX13_readValue_252 (by decide) ?_
  obtain ⟨v254, S254, e254, hq⟩ := md_b_e hq
  refine q_cV (Y := mX13_readNumber) (As := [.int 6]) (st := [.int x1, .ref (m + md_ad 17)]) (b := m) (ci := 15) vc_X13_readNumber dX13_readValue_254 ml_RX13_255 rfl md_obj rfl (Nat.le_of_ble_eq_true rfl) rfl (Nat.le_of_ble_eq_true rfl) (ro_readNumber (d := d + 1) hG hm e254) (fun v h1 hq1 => ?_) (fun E h1 hq1 => md_nQ hq1)
  obtain ⟨hv, rfl⟩ := hq1
  cases hv
  show mv_rq l G mX13_readValue (d + 4) 257 [some (.ref m), some (.int x1), none, none] [.int v254, .int x1, .ref (m + md_ad 17)] (md_H G B m S254) _
  obtain ⟨g257, hq⟩ := md_g hq
  refine r_iast hG hm 17 dX13_readValue_257 kk_17 g257 (fun S257 e257 => ?_)
  have hq := md_l_e e257 hq
  clear e257
  show mv_rq l G mX13_readValue (d + 4) 258 [some (.ref m), some (.int x1), none, none] [] (md_H G B m S257) _
  refine q_goto (tgt := 341) dX13_readValue_258 (by decide) ?_
  refine mv_weak (A := [some (.ref m), some (.int x1), none, none]) (by repeat' constructor) ?_
  exact ro_readValue_j341 hG hm hq
def mo_readValue_j150 (N : Nat) (x1 : Int32) (y0 : Int32) (y1 : Int32) (S : md_S) : Option md_S :=
  if md_in y1 41 then
  md_l (md_w S 12 y1.toNatClampNeg y0) fun S150 =>
  md_l (md_p S150 10 ((S150.1 10) + 1)) fun S158 =>
  if md_in (S158.1 21) 8 then
  md_l (md_w S158 20 (S158.1 21).toNatClampNeg x1) fun S170 =>
  md_l (md_p S170 21 ((S170.1 21) + 1)) fun S178 =>
  md_l (md_p S178 6 ((S178.1 6) + 1)) fun S188 =>
  some S188
  else none
  else none
theorem ro_readValue_j150 {l : Launch} {G : mv_G} {B : mv_H} {m N d : Nat} (hG : mv_ok G) (hm : G.2.2.1 ≤ m) {x1 : Int32} {y0 : Int32} {y1 : Int32} {S : md_S} {q : md_S} (hq : mo_readValue_j150 N x1 y0 y1 S = some q) : mv_rq l G mX13_readValue (d + 4) 150 [some (.ref m), some (.int x1), none, none] [.int y0, .int y1, .ref (m + md_ad 12)] (md_H G B m S) (md_V G B m q) := by
  unfold mo_readValue_j150 at hq
  obtain ⟨g150, hq⟩ := md_g hq
  refine r_iast hG hm 12 dX13_readValue_150 kk_12 g150 (fun S150 e150 => ?_)
  have hq := md_l_e e150 hq
  clear e150
  show mv_rq l G mX13_readValue (d + 4) 151 [some (.ref m), some (.int x1), none, none] [] (md_H G B m S150) _
  refine q_aload_n dX13_readValue_151 rfl ?_
  refine q_dup dX13_readValue_152 rfl ?_
  refine r_geti 10 dX13_readValue_153 fl_RX13_238 (by decide) rfl ki_10 ?_
  refine q_iconst (v := 1) dX13_readValue_156 (by decide) ?_
  refine q_iadd dX13_readValue_157 ?_
  refine r_puti 10 .int dX13_readValue_158 fl_RX13_238 (by decide) rfl ki_10 rfl kp_10 rfl rfl hm (fun S158 e158 => ?_)
  have hq := md_l_e e158 hq
  clear e158
  show mv_rq l G mX13_readValue (d + 4) 161 [some (.ref m), some (.int x1), none, none] [] (md_H G B m S158) _
  refine q_aload_n dX13_readValue_161 rfl ?_
  refine r_geta 20 dX13_readValue_162 fl_RX13_48 (by decide) rfl kk_20 ?_
  refine q_aload_n dX13_readValue_165 rfl ?_
  refine r_geti 21 dX13_readValue_166 fl_RX13_235 (by decide) rfl ki_21 ?_
  refine q_iload_n dX13_readValue_169 rfl ?_
  obtain ⟨g170, hq⟩ := md_g hq
  refine r_iast hG hm 20 dX13_readValue_170 kk_20 g170 (fun S170 e170 => ?_)
  have hq := md_l_e e170 hq
  clear e170
  show mv_rq l G mX13_readValue (d + 4) 171 [some (.ref m), some (.int x1), none, none] [] (md_H G B m S170) _
  refine q_aload_n dX13_readValue_171 rfl ?_
  refine q_dup dX13_readValue_172 rfl ?_
  refine r_geti 21 dX13_readValue_173 fl_RX13_235 (by decide) rfl ki_21 ?_
  refine q_iconst (v := 1) dX13_readValue_176 (by decide) ?_
  refine q_iadd dX13_readValue_177 ?_
  refine r_puti 21 .int dX13_readValue_178 fl_RX13_235 (by decide) rfl ki_21 rfl kp_21 rfl rfl hm (fun S178 e178 => ?_)
  have hq := md_l_e e178 hq
  clear e178
  show mv_rq l G mX13_readValue (d + 4) 181 [some (.ref m), some (.int x1), none, none] [] (md_H G B m S178) _
  refine q_aload_n dX13_readValue_181 rfl ?_
  refine q_dup dX13_readValue_182 rfl ?_
  refine r_geti 6 dX13_readValue_183 fl_RX13_202 (by decide) rfl ki_6 ?_
  refine q_iconst (v := 1) dX13_readValue_186 (by decide) ?_
  refine q_iadd dX13_readValue_187 ?_
  refine r_puti 6 .int dX13_readValue_188 fl_RX13_202 (by decide) rfl ki_6 rfl kp_6 rfl rfl hm (fun S188 e188 => ?_)
  have hq := md_l_e e188 hq
  clear e188
  show mv_rq l G mX13_readValue (d + 4) 191 [some (.ref m), some (.int x1), none, none] [] (md_H G B m S188) _
  obtain rfl := Option.some.inj hq
  exact q_vret dX13_readValue_191 rfl ⟨rfl, rfl⟩
def mo_readValue_j72 (N : Nat) (x1 : Int32) (x2 : Int32) (x3 : Int32) (S : md_S) : Option md_S :=
  md_b (mo_top S) fun v78 S78 =>
  if md_in x1 41 then
  md_l (md_w S78 13 x1.toNatClampNeg v78) fun S81 =>
  if md_in x1 41 then
  md_l (md_w S81 15 x1.toNatClampNeg (S81.1 6)) fun S91 =>
  if md_in x1 41 then
  md_l (md_w S91 18 x1.toNatClampNeg (S91.1 22)) fun S101 =>
  if md_in x1 41 then
  md_l (md_w S101 19 x1.toNatClampNeg (S101.1 23)) fun S111 =>
  md_l (md_p S111 22 (-1)) fun S114 =>
  md_l (md_p S114 23 0) fun S119 =>
  if md_in x1 41 then
  md_l (md_w S119 17 x1.toNatClampNeg 0) fun S128 =>
  if x3 = 0 then
    if x2 = 34 then
      if md_in x1 41 then
      md_l (md_w S128 12 x1.toNatClampNeg 4) fun S204 =>
      md_c (mo_readString N 34 92 S204) fun S210 =>
      if md_in x1 41 then
      md_l (md_w S210 17 x1.toNatClampNeg (S210.1 87)) fun S222 =>
      mo_readValue_j341 N x1 S222
      else none
      else none
    else
      if x2 = 45 then
        mo_readValue_j239 N x1 S128
      else
        md_b (mo_isDigit x2 S128) fun v233 S233 =>
        if v233 = 0 then
          if x2 = 116 then
            if md_in x1 41 then
            md_l (md_w S233 12 x1.toNatClampNeg 2) fun S273 =>
            md_c (mo_word N 1953658213 4 S273) fun S279 =>
            mo_readValue_j341 N x1 S279
            else none
          else
            if x2 = 102 then
              if md_in x1 41 then
              md_l (md_w S233 12 x1.toNatClampNeg 1) fun S297 =>
              md_c (mo_word N 439721161573 5 S297) fun S303 =>
              mo_readValue_j341 N x1 S303
              else none
            else
              if x2 = 110 then
                if md_in x1 41 then
                md_l (md_w S233 12 x1.toNatClampNeg 0) fun S321 =>
                md_c (mo_word N 1853189228 4 S321) fun S327 =>
                mo_readValue_j341 N x1 S327
                else none
              else
                md_c (mo_fail (S233.1 6) S233) fun S338 =>
                mo_readValue_j341 N x1 S338
        else
          mo_readValue_j239 N x1 S233
  else
    if x2 = 91 then
      mo_readValue_j150 N x1 5 x1 S128
    else
      mo_readValue_j150 N x1 6 x1 S128
  else none
  else none
  else none
  else none
  else none
theorem ro_readValue_j72 {l : Launch} {G : mv_G} {B : mv_H} {m N d : Nat} (hG : mv_ok G) (hm : G.2.2.1 ≤ m) {x1 : Int32} {x2 : Int32} {x3 : Int32} {S : md_S} {q : md_S} (hq : mo_readValue_j72 N x1 x2 x3 S = some q) : mv_rq l G mX13_readValue (d + 4) 72 [some (.ref m), some (.int x1), some (.int x2), some (.int x3)] [] (md_H G B m S) (md_V G B m q) := by
  unfold mo_readValue_j72 at hq
  refine q_aload_n dX13_readValue_72 rfl ?_
  refine r_geta 13 dX13_readValue_73 fl_RX13_27 (by decide) rfl kk_13 ?_
  refine q_iload_n dX13_readValue_76 rfl ?_
  refine q_aload_n dX13_readValue_77 rfl ?_
  obtain ⟨v78, S78, e78, hq⟩ := md_b_e hq
  refine q_cV (Y := mX13_top) (As := []) (st := [.int x1, .ref (m + md_ad 13)]) (b := m) (ci := 15) vc_X13_top dX13_readValue_78 ml_RX13_241 rfl md_obj rfl (Nat.le_of_ble_eq_true rfl) rfl (Nat.le_of_ble_eq_true rfl) (ro_top (d := d + 3) hG hm e78) (fun v h1 hq1 => ?_) (fun E h1 hq1 => md_nQ hq1)
  obtain ⟨hv, rfl⟩ := hq1
  cases hv
  show mv_rq l G mX13_readValue (d + 4) 81 [some (.ref m), some (.int x1), some (.int x2), some (.int x3)] [.int v78, .int x1, .ref (m + md_ad 13)] (md_H G B m S78) _
  obtain ⟨g81, hq⟩ := md_g hq
  refine r_iast hG hm 13 dX13_readValue_81 kk_13 g81 (fun S81 e81 => ?_)
  have hq := md_l_e e81 hq
  clear e81
  show mv_rq l G mX13_readValue (d + 4) 82 [some (.ref m), some (.int x1), some (.int x2), some (.int x3)] [] (md_H G B m S81) _
  refine q_aload_n dX13_readValue_82 rfl ?_
  refine r_geta 15 dX13_readValue_83 fl_RX13_33 (by decide) rfl kk_15 ?_
  refine q_iload_n dX13_readValue_86 rfl ?_
  refine q_aload_n dX13_readValue_87 rfl ?_
  refine r_geti 6 dX13_readValue_88 fl_RX13_202 (by decide) rfl ki_6 ?_
  obtain ⟨g91, hq⟩ := md_g hq
  refine r_iast hG hm 15 dX13_readValue_91 kk_15 g91 (fun S91 e91 => ?_)
  have hq := md_l_e e91 hq
  clear e91
  show mv_rq l G mX13_readValue (d + 4) 92 [some (.ref m), some (.int x1), some (.int x2), some (.int x3)] [] (md_H G B m S91) _
  refine q_aload_n dX13_readValue_92 rfl ?_
  refine r_geta 18 dX13_readValue_93 fl_RX13_42 (by decide) rfl kk_18 ?_
  refine q_iload_n dX13_readValue_96 rfl ?_
  refine q_aload_n dX13_readValue_97 rfl ?_
  refine r_geti 22 dX13_readValue_98 fl_RX13_245 (by decide) rfl ki_22 ?_
  obtain ⟨g101, hq⟩ := md_g hq
  refine r_iast hG hm 18 dX13_readValue_101 kk_18 g101 (fun S101 e101 => ?_)
  have hq := md_l_e e101 hq
  clear e101
  show mv_rq l G mX13_readValue (d + 4) 102 [some (.ref m), some (.int x1), some (.int x2), some (.int x3)] [] (md_H G B m S101) _
  refine q_aload_n dX13_readValue_102 rfl ?_
  refine r_geta 19 dX13_readValue_103 fl_RX13_45 (by decide) rfl kk_19 ?_
  refine q_iload_n dX13_readValue_106 rfl ?_
  refine q_aload_n dX13_readValue_107 rfl ?_
  refine r_geti 23 dX13_readValue_108 fl_RX13_248 (by decide) rfl ki_23 ?_
  obtain ⟨g111, hq⟩ := md_g hq
  refine r_iast hG hm 19 dX13_readValue_111 kk_19 g111 (fun S111 e111 => ?_)
  have hq := md_l_e e111 hq
  clear e111
  show mv_rq l G mX13_readValue (d + 4) 112 [some (.ref m), some (.int x1), some (.int x2), some (.int x3)] [] (md_H G B m S111) _
  refine q_aload_n dX13_readValue_112 rfl ?_
  refine q_iconst (v := (-1)) dX13_readValue_113 (by decide) ?_
  refine r_puti 22 .int dX13_readValue_114 fl_RX13_245 (by decide) rfl ki_22 rfl kp_22 rfl rfl hm (fun S114 e114 => ?_)
  have hq := md_l_e e114 hq
  clear e114
  show mv_rq l G mX13_readValue (d + 4) 117 [some (.ref m), some (.int x1), some (.int x2), some (.int x3)] [] (md_H G B m S114) _
  refine q_aload_n dX13_readValue_117 rfl ?_
  refine q_iconst (v := 0) dX13_readValue_118 (by decide) ?_
  refine r_puti 23 .int dX13_readValue_119 fl_RX13_248 (by decide) rfl ki_23 rfl kp_23 rfl rfl hm (fun S119 e119 => ?_)
  have hq := md_l_e e119 hq
  clear e119
  show mv_rq l G mX13_readValue (d + 4) 122 [some (.ref m), some (.int x1), some (.int x2), some (.int x3)] [] (md_H G B m S119) _
  refine q_aload_n dX13_readValue_122 rfl ?_
  refine r_geta 17 dX13_readValue_123 fl_RX13_39 (by decide) rfl kk_17 ?_
  refine q_iload_n dX13_readValue_126 rfl ?_
  refine q_iconst (v := 0) dX13_readValue_127 (by decide) ?_
  obtain ⟨g128, hq⟩ := md_g hq
  refine r_iast hG hm 17 dX13_readValue_128 kk_17 g128 (fun S128 e128 => ?_)
  have hq := md_l_e e128 hq
  clear e128
  show mv_rq l G mX13_readValue (d + 4) 129 [some (.ref m), some (.int x1), some (.int x2), some (.int x3)] [] (md_H G B m S128) _
  refine q_iload_n dX13_readValue_129 rfl ?_
  refine q_if_eq (tgt := 192) dX13_readValue_130 (by decide) (fun c130 => ?_) (fun c130 => ?_)
  ·
    have hq := md_pos c130 hq
    refine q_iload_n dX13_readValue_192 rfl ?_
    refine q_bipush (v := 34) dX13_readValue_193 (by decide) ?_
    refine q_icmp_ne (tgt := 226) dX13_readValue_195 (by decide) (fun c195 => ?_) (fun c195 => ?_)
    ·
      have hq := md_neg c195 hq
      refine q_iload_n dX13_readValue_226 rfl ?_
      refine q_bipush (v := 45) dX13_readValue_227 (by decide) ?_
      refine q_icmp_eq (tgt := 239) dX13_readValue_229 (by decide) (fun c229 => ?_) (fun c229 => ?_)
      ·
        have hq := md_pos c229 hq
        refine mv_weak (A := [some (.ref m), some (.int x1), none, none]) (by repeat' constructor) ?_
        exact ro_readValue_j239 hG hm hq
      ·
        have hq := md_neg c229 hq
        refine q_iload_n dX13_readValue_232 rfl ?_
        obtain ⟨v233, S233, e233, hq⟩ := md_b_e hq
        refine q_cS (Y := mX13_isDigit) (As := [.int x2]) (st := []) sc_X13_isDigit dX13_readValue_233 ml_RX13_231 rfl (Nat.le_of_ble_eq_true rfl) rfl (Nat.le_of_ble_eq_true rfl) (ro_isDigit (d := d + 3) hG hm e233) (fun v h1 hq1 => ?_) (fun E h1 hq1 => md_nQ hq1)
        obtain ⟨hv, rfl⟩ := hq1
        cases hv
        show mv_rq l G mX13_readValue (d + 4) 236 [some (.ref m), some (.int x1), some (.int x2), some (.int x3)] [.int v233] (md_H G B m S233) _
        refine q_if_eq (tgt := 261) dX13_readValue_236 (by decide) (fun c236 => ?_) (fun c236 => ?_)
        ·
          have hq := md_pos c236 hq
          refine q_iload_n dX13_readValue_261 rfl ?_
          refine q_bipush (v := 116) dX13_readValue_262 (by decide) ?_
          refine q_icmp_ne (tgt := 285) dX13_readValue_264 (by decide) (fun c264 => ?_) (fun c264 => ?_)
          ·
            have hq := md_neg c264 hq
            refine q_iload_n dX13_readValue_285 rfl ?_
            refine q_bipush (v := 102) dX13_readValue_286 (by decide) ?_
            refine q_icmp_ne (tgt := 309) dX13_readValue_288 (by decide) (fun c288 => ?_) (fun c288 => ?_)
            ·
              have hq := md_neg c288 hq
              refine q_iload_n dX13_readValue_309 rfl ?_
              refine q_bipush (v := 110) dX13_readValue_310 (by decide) ?_
              refine q_icmp_ne (tgt := 333) dX13_readValue_312 (by decide) (fun c312 => ?_) (fun c312 => ?_)
              ·
                have hq := md_neg c312 hq
                refine q_aload_n dX13_readValue_333 rfl ?_
                refine q_aload_n dX13_readValue_334 rfl ?_
                refine r_geti 6 dX13_readValue_335 fl_RX13_202 (by decide) rfl ki_6 ?_
                obtain ⟨S338, e338, hq⟩ := md_c_e hq
                refine q_cV (Y := mX13_fail) (As := [.int (S233.1 6)]) (st := []) (b := m) (ci := 15) vc_X13_fail dX13_readValue_338 ml_RX13_216 rfl md_obj rfl (Nat.le_of_ble_eq_true rfl) rfl (Nat.le_of_ble_eq_true rfl) (ro_fail (d := d + 2) hG hm e338) (fun v h1 hq1 => ?_) (fun E h1 hq1 => md_nV hq1)
                obtain ⟨hv, rfl⟩ := hq1
                cases hv
                show mv_rq l G mX13_readValue (d + 4) 341 [some (.ref m), some (.int x1), some (.int x2), some (.int x3)] [] (md_H G B m S338) _
                refine mv_weak (A := [some (.ref m), some (.int x1), none, none]) (by repeat' constructor) ?_
                exact ro_readValue_j341 hG hm hq
              ·
                have hq := md_pos c312 hq
                refine q_aload_n dX13_readValue_315 rfl ?_
                refine r_geta 12 dX13_readValue_316 fl_RX13_23 (by decide) rfl kk_12 ?_
                refine q_iload_n dX13_readValue_319 rfl ?_
                refine q_iconst (v := 0) dX13_readValue_320 (by decide) ?_
                obtain ⟨g321, hq⟩ := md_g hq
                refine r_iast hG hm 12 dX13_readValue_321 kk_12 g321 (fun S321 e321 => ?_)
                have hq := md_l_e e321 hq
                clear e321
                show mv_rq l G mX13_readValue (d + 4) 322 [some (.ref m), some (.int x1), some (.int x2), some (.int x3)] [] (md_H G B m S321) _
                refine q_aload_n dX13_readValue_322 rfl ?_
                refine q_ldc2 dX13_readValue_323 cu_RX13_266 ?_
                refine q_iconst (v := 4) dX13_readValue_326 (by decide) ?_
                obtain ⟨S327, e327, hq⟩ := md_c_e hq
                refine q_cV (Y := mX13_word) (As := [.long 1853189228, .int 4]) (st := []) (b := m) (ci := 15) vc_X13_word dX13_readValue_327 ml_RX13_260 rfl md_obj rfl (Nat.le_of_ble_eq_true rfl) rfl (Nat.le_of_ble_eq_true rfl) (ro_word (d := d) hG hm e327) (fun v h1 hq1 => ?_) (fun E h1 hq1 => md_nV hq1)
                obtain ⟨hv, rfl⟩ := hq1
                cases hv
                show mv_rq l G mX13_readValue (d + 4) 330 [some (.ref m), some (.int x1), some (.int x2), some (.int x3)] [] (md_H G B m S327) _
                refine q_goto (tgt := 341) dX13_readValue_330 (by decide) ?_
                refine mv_weak (A := [some (.ref m), some (.int x1), none, none]) (by repeat' constructor) ?_
                exact ro_readValue_j341 hG hm hq
            ·
              have hq := md_pos c288 hq
              refine q_aload_n dX13_readValue_291 rfl ?_
              refine r_geta 12 dX13_readValue_292 fl_RX13_23 (by decide) rfl kk_12 ?_
              refine q_iload_n dX13_readValue_295 rfl ?_
              refine q_iconst (v := 1) dX13_readValue_296 (by decide) ?_
              obtain ⟨g297, hq⟩ := md_g hq
              refine r_iast hG hm 12 dX13_readValue_297 kk_12 g297 (fun S297 e297 => ?_)
              have hq := md_l_e e297 hq
              clear e297
              show mv_rq l G mX13_readValue (d + 4) 298 [some (.ref m), some (.int x1), some (.int x2), some (.int x3)] [] (md_H G B m S297) _
              refine q_aload_n dX13_readValue_298 rfl ?_
              refine q_ldc2 dX13_readValue_299 cu_RX13_264 ?_
              refine q_iconst (v := 5) dX13_readValue_302 (by decide) ?_
              obtain ⟨S303, e303, hq⟩ := md_c_e hq
              refine q_cV (Y := mX13_word) (As := [.long 439721161573, .int 5]) (st := []) (b := m) (ci := 15) vc_X13_word dX13_readValue_303 ml_RX13_260 rfl md_obj rfl (Nat.le_of_ble_eq_true rfl) rfl (Nat.le_of_ble_eq_true rfl) (ro_word (d := d) hG hm e303) (fun v h1 hq1 => ?_) (fun E h1 hq1 => md_nV hq1)
              obtain ⟨hv, rfl⟩ := hq1
              cases hv
              show mv_rq l G mX13_readValue (d + 4) 306 [some (.ref m), some (.int x1), some (.int x2), some (.int x3)] [] (md_H G B m S303) _
              refine q_goto (tgt := 341) dX13_readValue_306 (by decide) ?_
              refine mv_weak (A := [some (.ref m), some (.int x1), none, none]) (by repeat' constructor) ?_
              exact ro_readValue_j341 hG hm hq
          ·
            have hq := md_pos c264 hq
            refine q_aload_n dX13_readValue_267 rfl ?_
            refine r_geta 12 dX13_readValue_268 fl_RX13_23 (by decide) rfl kk_12 ?_
            refine q_iload_n dX13_readValue_271 rfl ?_
            refine q_iconst (v := 2) dX13_readValue_272 (by decide) ?_
            obtain ⟨g273, hq⟩ := md_g hq
            refine r_iast hG hm 12 dX13_readValue_273 kk_12 g273 (fun S273 e273 => ?_)
            have hq := md_l_e e273 hq
            clear e273
            show mv_rq l G mX13_readValue (d + 4) 274 [some (.ref m), some (.int x1), some (.int x2), some (.int x3)] [] (md_H G B m S273) _
            refine q_aload_n dX13_readValue_274 rfl ?_
            refine q_ldc2 dX13_readValue_275 cu_RX13_258 ?_
            refine q_iconst (v := 4) dX13_readValue_278 (by decide) ?_
            obtain ⟨S279, e279, hq⟩ := md_c_e hq
            refine q_cV (Y := mX13_word) (As := [.long 1953658213, .int 4]) (st := []) (b := m) (ci := 15) vc_X13_word dX13_readValue_279 ml_RX13_260 rfl md_obj rfl (Nat.le_of_ble_eq_true rfl) rfl (Nat.le_of_ble_eq_true rfl) (ro_word (d := d) hG hm e279) (fun v h1 hq1 => ?_) (fun E h1 hq1 => md_nV hq1)
            obtain ⟨hv, rfl⟩ := hq1
            cases hv
            show mv_rq l G mX13_readValue (d + 4) 282 [some (.ref m), some (.int x1), some (.int x2), some (.int x3)] [] (md_H G B m S279) _
            refine q_goto (tgt := 341) dX13_readValue_282 (by decide) ?_
            refine mv_weak (A := [some (.ref m), some (.int x1), none, none]) (by repeat' constructor) ?_
            exact ro_readValue_j341 hG hm hq
        ·
          have hq := md_neg c236 hq
          refine mv_weak (A := [some (.ref m), some (.int x1), none, none]) (by repeat' constructor) ?_
          exact ro_readValue_j239 hG hm hq
    ·
      have hq := md_pos c195 hq
      refine q_aload_n dX13_readValue_198 rfl ?_
      refine r_geta 12 dX13_readValue_199 fl_RX13_23 (by decide) rfl kk_12 ?_
      refine q_iload_n dX13_readValue_202 rfl ?_
      refine q_iconst (v := 4) dX13_readValue_203 (by decide) ?_
      obtain ⟨g204, hq⟩ := md_g hq
      refine r_iast hG hm 12 dX13_readValue_204 kk_12 g204 (fun S204 e204 => ?_)
      have hq := md_l_e e204 hq
      clear e204
      show mv_rq l G mX13_readValue (d + 4) 205 [some (.ref m), some (.int x1), some (.int x2), some (.int x3)] [] (md_H G B m S204) _
      refine q_aload_n dX13_readValue_205 rfl ?_
      refine q_bipush (v := 34) dX13_readValue_206 (by decide) ?_
      refine q_bipush (v := 92) dX13_readValue_208 (by decide) ?_
      obtain ⟨S210, e210, hq⟩ := md_c_e hq
      refine q_cV (Y := mX13_readString) (As := [.int 34, .int 92]) (st := []) (b := m) (ci := 15) vc_X13_readString dX13_readValue_210 ml_RX13_251 rfl md_obj rfl (Nat.le_of_ble_eq_true rfl) rfl (Nat.le_of_ble_eq_true rfl) (ro_readString (d := d + 1) hG hm e210) (fun v h1 hq1 => ?_) (fun E h1 hq1 => md_nV hq1)
      obtain ⟨hv, rfl⟩ := hq1
      cases hv
      show mv_rq l G mX13_readValue (d + 4) 213 [some (.ref m), some (.int x1), some (.int x2), some (.int x3)] [] (md_H G B m S210) _
      refine q_aload_n dX13_readValue_213 rfl ?_
      refine r_geta 17 dX13_readValue_214 fl_RX13_39 (by decide) rfl kk_17 ?_
      refine q_iload_n dX13_readValue_217 rfl ?_
      refine q_aload_n dX13_readValue_218 rfl ?_
      refine r_geti 87 dX13_readValue_219 fl_RX13_228 (by decide) rfl ki_87 ?_
      obtain ⟨g222, hq⟩ := md_g hq
      refine r_iast hG hm 17 dX13_readValue_222 kk_17 g222 (fun S222 e222 => ?_)
      have hq := md_l_e e222 hq
      clear e222
      show mv_rq l G mX13_readValue (d + 4) 223 [some (.ref m), some (.int x1), some (.int x2), some (.int x3)] [] (md_H G B m S222) _
      refine q_goto (tgt := 341) dX13_readValue_223 (by decide) ?_
      refine mv_weak (A := [some (.ref m), some (.int x1), none, none]) (by repeat' constructor) ?_
      exact ro_readValue_j341 hG hm hq
  ·
    have hq := md_neg c130 hq
    refine q_aload_n dX13_readValue_133 rfl ?_
    refine r_geta 12 dX13_readValue_134 fl_RX13_23 (by decide) rfl kk_12 ?_
    refine q_iload_n dX13_readValue_137 rfl ?_
    refine q_iload_n dX13_readValue_138 rfl ?_
    refine q_bipush (v := 91) dX13_readValue_139 (by decide) ?_
    refine q_icmp_ne (tgt := 148) dX13_readValue_141 (by decide) (fun c141 => ?_) (fun c141 => ?_)
    ·
      have hq := md_neg c141 hq
      refine q_bipush (v := 6) dX13_readValue_148 (by decide) ?_
      refine mv_weak (A := [some (.ref m), some (.int x1), none, none]) (by repeat' constructor) ?_
      exact ro_readValue_j150 hG hm hq
    ·
      have hq := md_pos c141 hq
      refine q_iconst (v := 5) dX13_readValue_144 (by decide) ?_
      refine q_goto (tgt := 150) dX13_readValue_145 (by decide) ?_
      refine mv_weak (A := [some (.ref m), some (.int x1), none, none]) (by repeat' constructor) ?_
      exact ro_readValue_j150 hG hm hq
def mo_readValue_j49 (N : Nat) (x1 : Int32) (x2 : Int32) (y0 : Int32) (S : md_S) : Option md_S :=
  if y0 = 0 then
    mo_readValue_j72 N x1 x2 y0 S
  else
    if (S.1 21) = 6 then
      md_c (mo_fail (S.1 6) S) fun S68 =>
      some S68
    else
      mo_readValue_j72 N x1 x2 y0 S
theorem ro_readValue_j49 {l : Launch} {G : mv_G} {B : mv_H} {m N d : Nat} (hG : mv_ok G) (hm : G.2.2.1 ≤ m) {x1 : Int32} {x2 : Int32} {y0 : Int32} {S : md_S} {q : md_S} (hq : mo_readValue_j49 N x1 x2 y0 S = some q) : mv_rq l G mX13_readValue (d + 4) 49 [some (.ref m), some (.int x1), some (.int x2), none] [.int y0] (md_H G B m S) (md_V G B m q) := by
  unfold mo_readValue_j49 at hq
  refine q_istore_n dX13_readValue_49 (Nat.le_of_ble_eq_true rfl) rfl ?_
  show mv_rq l G mX13_readValue (d + 4) 50 [some (.ref m), some (.int x1), some (.int x2), some (.int y0)] [] (md_H G B m S) _
  refine q_iload_n dX13_readValue_50 rfl ?_
  refine q_if_eq (tgt := 72) dX13_readValue_51 (by decide) (fun c51 => ?_) (fun c51 => ?_)
  ·
    have hq := md_pos c51 hq
    refine mv_weak (A := [some (.ref m), some (.int x1), some (.int x2), some (.int y0)]) (by repeat' constructor) ?_
    exact ro_readValue_j72 hG hm hq
  ·
    have hq := md_neg c51 hq
    refine q_aload_n dX13_readValue_54 rfl ?_
    refine r_geti 21 dX13_readValue_55 fl_RX13_235 (by decide) rfl ki_21 ?_
    refine q_bipush (v := 6) dX13_readValue_58 (by decide) ?_
    refine q_icmp_ne (tgt := 72) dX13_readValue_60 (by decide) (fun c60 => ?_) (fun c60 => ?_)
    ·
      have hq := md_neg c60 hq
      refine mv_weak (A := [some (.ref m), some (.int x1), some (.int x2), some (.int y0)]) (by repeat' constructor) ?_
      exact ro_readValue_j72 hG hm hq
    ·
      have hq := md_pos c60 hq
      refine q_aload_n dX13_readValue_63 rfl ?_
      refine q_aload_n dX13_readValue_64 rfl ?_
      refine r_geti 6 dX13_readValue_65 fl_RX13_202 (by decide) rfl ki_6 ?_
      obtain ⟨S68, e68, hq⟩ := md_c_e hq
      refine q_cV (Y := mX13_fail) (As := [.int (S.1 6)]) (st := []) (b := m) (ci := 15) vc_X13_fail dX13_readValue_68 ml_RX13_216 rfl md_obj rfl (Nat.le_of_ble_eq_true rfl) rfl (Nat.le_of_ble_eq_true rfl) (ro_fail (d := d + 2) hG hm e68) (fun v h1 hq1 => ?_) (fun E h1 hq1 => md_nV hq1)
      obtain ⟨hv, rfl⟩ := hq1
      cases hv
      show mv_rq l G mX13_readValue (d + 4) 71 [some (.ref m), some (.int x1), some (.int x2), some (.int y0)] [] (md_H G B m S68) _
      obtain rfl := Option.some.inj hq
      exact q_vret dX13_readValue_71 rfl ⟨rfl, rfl⟩
def mo_readValue_j44 (N : Nat) (x1 : Int32) (x2 : Int32) (S : md_S) : Option md_S :=
  mo_readValue_j49 N x1 x2 1 S
theorem ro_readValue_j44 {l : Launch} {G : mv_G} {B : mv_H} {m N d : Nat} (hG : mv_ok G) (hm : G.2.2.1 ≤ m) {x1 : Int32} {x2 : Int32} {S : md_S} {q : md_S} (hq : mo_readValue_j44 N x1 x2 S = some q) : mv_rq l G mX13_readValue (d + 4) 44 [some (.ref m), some (.int x1), some (.int x2), none] [] (md_H G B m S) (md_V G B m q) := by
  unfold mo_readValue_j44 at hq
  refine q_iconst (v := 1) dX13_readValue_44 (by decide) ?_
  refine q_goto (tgt := 49) dX13_readValue_45 (by decide) ?_
  refine mv_weak (A := [some (.ref m), some (.int x1), some (.int x2), none]) (by repeat' constructor) ?_
  exact ro_readValue_j49 hG hm hq
def mo_readValue (N : Nat) (S : md_S) : Option md_S :=
  if (S.1 10) = 40 then
    md_c (mo_fail (S.1 6) S) fun S14 =>
    some S14
  else
    md_b (mo_at (S.1 6) S) fun v28 S28 =>
    if v28 = 91 then
      mo_readValue_j44 N (S.1 10) v28 S28
    else
      if v28 = 123 then
        mo_readValue_j44 N (S.1 10) v28 S28
      else
        mo_readValue_j49 N (S.1 10) v28 0 S28
theorem ro_readValue {l : Launch} {G : mv_G} {B : mv_H} {m N d : Nat} (hG : mv_ok G) (hm : G.2.2.1 ≤ m) {S : md_S} {q : md_S} (hq : mo_readValue N S = some q) : mv_rq l G mX13_readValue (d + 4) 0 (mv_in [.ref m] 4) [] (md_H G B m S) (md_V G B m q) := by
  unfold mo_readValue at hq
  show mv_rq l G mX13_readValue (d + 4) 0 [some (.ref m), none, none, none] [] (md_H G B m S) _
  refine q_aload_n dX13_readValue_0 rfl ?_
  refine r_geti 10 dX13_readValue_1 fl_RX13_238 (by decide) rfl ki_10 ?_
  refine q_bipush (v := 40) dX13_readValue_4 (by decide) ?_
  refine q_icmp_ne (tgt := 18) dX13_readValue_6 (by decide) (fun c6 => ?_) (fun c6 => ?_)
  ·
    have hq := md_neg c6 hq
    refine q_aload_n dX13_readValue_18 rfl ?_
    refine r_geti 10 dX13_readValue_19 fl_RX13_238 (by decide) rfl ki_10 ?_
    refine q_istore_n dX13_readValue_22 (Nat.le_of_ble_eq_true rfl) rfl ?_
    show mv_rq l G mX13_readValue (d + 4) 23 [some (.ref m), some (.int (S.1 10)), none, none] [] (md_H G B m S) _
    refine q_aload_n dX13_readValue_23 rfl ?_
    refine q_aload_n dX13_readValue_24 rfl ?_
    refine r_geti 6 dX13_readValue_25 fl_RX13_202 (by decide) rfl ki_6 ?_
    obtain ⟨v28, S28, e28, hq⟩ := md_b_e hq
    refine q_cV (Y := mX13_at) (As := [.int (S.1 6)]) (st := []) (b := m) (ci := 15) vc_X13_at dX13_readValue_28 ml_RX13_212 rfl md_obj rfl (Nat.le_of_ble_eq_true rfl) rfl (Nat.le_of_ble_eq_true rfl) (ro_at (d := d + 3) hG hm e28) (fun v h1 hq1 => ?_) (fun E h1 hq1 => md_nQ hq1)
    obtain ⟨hv, rfl⟩ := hq1
    cases hv
    show mv_rq l G mX13_readValue (d + 4) 31 [some (.ref m), some (.int (S.1 10)), none, none] [.int v28] (md_H G B m S28) _
    refine q_istore_n dX13_readValue_31 (Nat.le_of_ble_eq_true rfl) rfl ?_
    show mv_rq l G mX13_readValue (d + 4) 32 [some (.ref m), some (.int (S.1 10)), some (.int v28), none] [] (md_H G B m S28) _
    refine q_iload_n dX13_readValue_32 rfl ?_
    refine q_bipush (v := 91) dX13_readValue_33 (by decide) ?_
    refine q_icmp_eq (tgt := 44) dX13_readValue_35 (by decide) (fun c35 => ?_) (fun c35 => ?_)
    ·
      have hq := md_pos c35 hq
      refine mv_weak (A := [some (.ref m), some (.int (S.1 10)), some (.int v28), none]) (by repeat' constructor) ?_
      exact ro_readValue_j44 hG hm hq
    ·
      have hq := md_neg c35 hq
      refine q_iload_n dX13_readValue_38 rfl ?_
      refine q_bipush (v := 123) dX13_readValue_39 (by decide) ?_
      refine q_icmp_ne (tgt := 48) dX13_readValue_41 (by decide) (fun c41 => ?_) (fun c41 => ?_)
      ·
        have hq := md_neg c41 hq
        refine q_iconst (v := 0) dX13_readValue_48 (by decide) ?_
        refine mv_weak (A := [some (.ref m), some (.int (S.1 10)), some (.int v28), none]) (by repeat' constructor) ?_
        exact ro_readValue_j49 hG hm hq
      ·
        have hq := md_pos c41 hq
        refine mv_weak (A := [some (.ref m), some (.int (S.1 10)), some (.int v28), none]) (by repeat' constructor) ?_
        exact ro_readValue_j44 hG hm hq
  ·
    have hq := md_pos c6 hq
    refine q_aload_n dX13_readValue_9 rfl ?_
    refine q_aload_n dX13_readValue_10 rfl ?_
    refine r_geti 6 dX13_readValue_11 fl_RX13_202 (by decide) rfl ki_6 ?_
    obtain ⟨S14, e14, hq⟩ := md_c_e hq
    refine q_cV (Y := mX13_fail) (As := [.int (S.1 6)]) (st := []) (b := m) (ci := 15) vc_X13_fail dX13_readValue_14 ml_RX13_216 rfl md_obj rfl (Nat.le_of_ble_eq_true rfl) rfl (Nat.le_of_ble_eq_true rfl) (ro_fail (d := d + 2) hG hm e14) (fun v h1 hq1 => ?_) (fun E h1 hq1 => md_nV hq1)
    obtain ⟨hv, rfl⟩ := hq1
    cases hv
    show mv_rq l G mX13_readValue (d + 4) 17 [some (.ref m), none, none, none] [] (md_H G B m S14) _
    obtain rfl := Option.some.inj hq
    exact q_vret dX13_readValue_17 rfl ⟨rfl, rfl⟩
