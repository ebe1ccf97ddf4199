theorem dX6_clear_0 : decode cX6_clear 0 = .ok (.aload_n 0, 1) := by decide +kernel
theorem dX6_clear_1 : decode cX6_clear 1 = .ok (.iconst 0, 1) := by decide +kernel
theorem dX6_clear_2 : decode cX6_clear 2 = .ok (.putfield 15, 3) := by decide +kernel
theorem dX6_clear_5 : decode cX6_clear 5 = .ok (.return_, 1) := by decide +kernel
theorem dX6_add_0 : decode cX6_add 0 = .ok (.aload_n 0, 1) := by decide +kernel
theorem dX6_add_1 : decode cX6_add 1 = .ok (.getfield 15, 3) := by decide +kernel
theorem dX6_add_4 : decode cX6_add 4 = .ok (.sipush 300, 3) := by decide +kernel
theorem dX6_add_7 : decode cX6_add 7 = .ok (.if_icmp .lt 13, 3) := by decide +kernel
theorem dX6_add_10 : decode cX6_add 10 = .ok (.new 19, 3) := by decide +kernel
theorem dX6_add_13 : decode cX6_add 13 = .ok (.dup, 1) := by decide +kernel
theorem dX6_add_14 : decode cX6_add 14 = .ok (.ldc 21, 2) := by decide +kernel
theorem dX6_add_16 : decode cX6_add 16 = .ok (.invokespecial 23, 3) := by decide +kernel
theorem dX6_add_19 : decode cX6_add 19 = .ok (.athrow, 1) := by decide +kernel
theorem dX6_add_20 : decode cX6_add 20 = .ok (.aload_n 0, 1) := by decide +kernel
theorem dX6_add_21 : decode cX6_add 21 = .ok (.getfield 9, 3) := by decide +kernel
theorem dX6_add_24 : decode cX6_add 24 = .ok (.aload_n 0, 1) := by decide +kernel
theorem dX6_add_25 : decode cX6_add 25 = .ok (.getfield 15, 3) := by decide +kernel
theorem dX6_add_28 : decode cX6_add 28 = .ok (.iload_n 1, 1) := by decide +kernel
theorem dX6_add_29 : decode cX6_add 29 = .ok (.iastore, 1) := by decide +kernel
theorem dX6_add_30 : decode cX6_add 30 = .ok (.aload_n 0, 1) := by decide +kernel
theorem dX6_add_31 : decode cX6_add 31 = .ok (.dup, 1) := by decide +kernel
theorem dX6_add_32 : decode cX6_add 32 = .ok (.getfield 15, 3) := by decide +kernel
theorem dX6_add_35 : decode cX6_add 35 = .ok (.iconst 1, 1) := by decide +kernel
theorem dX6_add_36 : decode cX6_add 36 = .ok (.iadd, 1) := by decide +kernel
theorem dX6_add_37 : decode cX6_add 37 = .ok (.putfield 15, 3) := by decide +kernel
theorem dX6_add_40 : decode cX6_add 40 = .ok (.return_, 1) := by decide +kernel
theorem dX6_addIfThere_0 : decode cX6_addIfThere 0 = .ok (.iload_n 1, 1) := by decide +kernel
theorem dX6_addIfThere_1 : decode cX6_addIfThere 1 = .ok (.iconst (-1), 1) := by decide +kernel
theorem dX6_addIfThere_2 : decode cX6_addIfThere 2 = .ok (.if_icmp .eq 8, 3) := by decide +kernel
theorem dX6_addIfThere_5 : decode cX6_addIfThere 5 = .ok (.aload_n 0, 1) := by decide +kernel
theorem dX6_addIfThere_6 : decode cX6_addIfThere 6 = .ok (.iload_n 1, 1) := by decide +kernel
theorem dX6_addIfThere_7 : decode cX6_addIfThere 7 = .ok (.invokevirtual 26, 3) := by decide +kernel
theorem dX6_addIfThere_10 : decode cX6_addIfThere 10 = .ok (.return_, 1) := by decide +kernel
theorem dX6_addAll_0 : decode cX6_addAll 0 = .ok (.iconst 0, 1) := by decide +kernel
theorem dX6_addAll_1 : decode cX6_addAll 1 = .ok (.istore_n 2, 1) := by decide +kernel
theorem dX6_addAll_2 : decode cX6_addAll 2 = .ok (.iload_n 2, 1) := by decide +kernel
theorem dX6_addAll_3 : decode cX6_addAll 3 = .ok (.aload_n 1, 1) := by decide +kernel
theorem dX6_addAll_4 : decode cX6_addAll 4 = .ok (.getfield 15, 3) := by decide +kernel
theorem dX6_addAll_7 : decode cX6_addAll 7 = .ok (.if_icmp .ge 19, 3) := by decide +kernel
theorem dX6_addAll_10 : decode cX6_addAll 10 = .ok (.aload_n 0, 1) := by decide +kernel
theorem dX6_addAll_11 : decode cX6_addAll 11 = .ok (.aload_n 1, 1) := by decide +kernel
theorem dX6_addAll_12 : decode cX6_addAll 12 = .ok (.getfield 9, 3) := by decide +kernel
theorem dX6_addAll_15 : decode cX6_addAll 15 = .ok (.iload_n 2, 1) := by decide +kernel
theorem dX6_addAll_16 : decode cX6_addAll 16 = .ok (.iaload, 1) := by decide +kernel
theorem dX6_addAll_17 : decode cX6_addAll 17 = .ok (.invokevirtual 26, 3) := by decide +kernel
theorem dX6_addAll_20 : decode cX6_addAll 20 = .ok (.iinc 2 1, 3) := by decide +kernel
theorem dX6_addAll_23 : decode cX6_addAll 23 = .ok (.goto (-21), 3) := by decide +kernel
theorem dX6_addAll_26 : decode cX6_addAll 26 = .ok (.return_, 1) := by decide +kernel
theorem dX1_restart_0 : decode cX1_restart 0 = .ok (.aload_n 0, 1) := by decide +kernel
theorem dX1_restart_1 : decode cX1_restart 1 = .ok (.aload_n 1, 1) := by decide +kernel
theorem dX1_restart_2 : decode cX1_restart 2 = .ok (.putfield 24, 3) := by decide +kernel
theorem dX1_restart_5 : decode cX1_restart 5 = .ok (.aload_n 0, 1) := by decide +kernel
theorem dX1_restart_6 : decode cX1_restart 6 = .ok (.iconst 0, 1) := by decide +kernel
theorem dX1_restart_7 : decode cX1_restart 7 = .ok (.putfield 28, 3) := by decide +kernel
theorem dX1_restart_10 : decode cX1_restart 10 = .ok (.return_, 1) := by decide +kernel
theorem dX1_has_0 : decode cX1_has 0 = .ok (.iload_n 1, 1) := by decide +kernel
theorem dX1_has_1 : decode cX1_has 1 = .ok (.ifCond .lt 15, 3) := by decide +kernel
theorem dX1_has_4 : decode cX1_has 4 = .ok (.iload_n 1, 1) := by decide +kernel
theorem dX1_has_5 : decode cX1_has 5 = .ok (.aload_n 0, 1) := by decide +kernel
theorem dX1_has_6 : decode cX1_has 6 = .ok (.getfield 28, 3) := by decide +kernel
theorem dX1_has_9 : decode cX1_has 9 = .ok (.if_icmp .ge 7, 3) := by decide +kernel
theorem dX1_has_12 : decode cX1_has 12 = .ok (.iconst 1, 1) := by decide +kernel
theorem dX1_has_13 : decode cX1_has 13 = .ok (.goto 4, 3) := by decide +kernel
theorem dX1_has_16 : decode cX1_has 16 = .ok (.iconst 0, 1) := by decide +kernel
theorem dX1_has_17 : decode cX1_has 17 = .ok (.ireturn, 1) := by decide +kernel
theorem dX1_add_0 : decode cX1_add 0 = .ok (.aload_n 0, 1) := by decide +kernel
theorem dX1_add_1 : decode cX1_add 1 = .ok (.getfield 28, 3) := by decide +kernel
theorem dX1_add_4 : decode cX1_add 4 = .ok (.istore 4, 2) := by decide +kernel
theorem dX1_add_6 : decode cX1_add 6 = .ok (.aload_n 0, 1) := by decide +kernel
theorem dX1_add_7 : decode cX1_add 7 = .ok (.dup, 1) := by decide +kernel
theorem dX1_add_8 : decode cX1_add 8 = .ok (.getfield 28, 3) := by decide +kernel
theorem dX1_add_11 : decode cX1_add 11 = .ok (.iconst 1, 1) := by decide +kernel
theorem dX1_add_12 : decode cX1_add 12 = .ok (.iadd, 1) := by decide +kernel
theorem dX1_add_13 : decode cX1_add 13 = .ok (.putfield 28, 3) := by decide +kernel
theorem dX1_add_16 : decode cX1_add 16 = .ok (.aload_n 0, 1) := by decide +kernel
theorem dX1_add_17 : decode cX1_add 17 = .ok (.getfield 11, 3) := by decide +kernel
theorem dX1_add_20 : decode cX1_add 20 = .ok (.iload 4, 2) := by decide +kernel
theorem dX1_add_22 : decode cX1_add 22 = .ok (.aaload, 1) := by decide +kernel
theorem dX1_add_23 : decode cX1_add 23 = .ok (.astore 5, 2) := by decide +kernel
theorem dX1_add_25 : decode cX1_add 25 = .ok (.aload 5, 2) := by decide +kernel
theorem dX1_add_27 : decode cX1_add 27 = .ok (.iconst 0, 1) := by decide +kernel
theorem dX1_add_28 : decode cX1_add 28 = .ok (.iconst 0, 1) := by decide +kernel
theorem dX1_add_29 : decode cX1_add 29 = .ok (.ldc 22, 2) := by decide +kernel
theorem dX1_add_31 : decode cX1_add 31 = .ok (.invokevirtual 36, 3) := by decide +kernel
theorem dX1_add_34 : decode cX1_add 34 = .ok (.aload 5, 2) := by decide +kernel
theorem dX1_add_36 : decode cX1_add 36 = .ok (.aload_n 2, 1) := by decide +kernel
theorem dX1_add_37 : decode cX1_add 37 = .ok (.putfield 40, 3) := by decide +kernel
theorem dX1_add_40 : decode cX1_add 40 = .ok (.aload 5, 2) := by decide +kernel
theorem dX1_add_42 : decode cX1_add 42 = .ok (.iload_n 1, 1) := by decide +kernel
theorem dX1_add_43 : decode cX1_add 43 = .ok (.putfield 43, 3) := by decide +kernel
theorem dX1_add_46 : decode cX1_add 46 = .ok (.aload 5, 2) := by decide +kernel
theorem dX1_add_48 : decode cX1_add 48 = .ok (.iload_n 3, 1) := by decide +kernel
theorem dX1_add_49 : decode cX1_add 49 = .ok (.putfield 46, 3) := by decide +kernel
theorem dX1_add_52 : decode cX1_add 52 = .ok (.aload 5, 2) := by decide +kernel
theorem dX1_add_54 : decode cX1_add 54 = .ok (.iconst 0, 1) := by decide +kernel
theorem dX1_add_55 : decode cX1_add 55 = .ok (.putfield 49, 3) := by decide +kernel
theorem dX1_add_58 : decode cX1_add 58 = .ok (.aload_n 0, 1) := by decide +kernel
theorem dX1_add_59 : decode cX1_add 59 = .ok (.iload_n 1, 1) := by decide +kernel
theorem dX1_add_60 : decode cX1_add 60 = .ok (.invokevirtual 52, 3) := by decide +kernel
theorem dX1_add_63 : decode cX1_add 63 = .ok (.ifCond .eq 46, 3) := by decide +kernel
theorem dX1_add_66 : decode cX1_add 66 = .ok (.aload_n 0, 1) := by decide +kernel
theorem dX1_add_67 : decode cX1_add 67 = .ok (.getfield 11, 3) := by decide +kernel
theorem dX1_add_70 : decode cX1_add 70 = .ok (.iload_n 1, 1) := by decide +kernel
theorem dX1_add_71 : decode cX1_add 71 = .ok (.aaload, 1) := by decide +kernel
theorem dX1_add_72 : decode cX1_add 72 = .ok (.astore 6, 2) := by decide +kernel
theorem dX1_add_74 : decode cX1_add 74 = .ok (.aload 5, 2) := by decide +kernel
theorem dX1_add_76 : decode cX1_add 76 = .ok (.aload 6, 2) := by decide +kernel
theorem dX1_add_78 : decode cX1_add 78 = .ok (.getfield 56, 3) := by decide +kernel
theorem dX1_add_81 : decode cX1_add 81 = .ok (.putfield 49, 3) := by decide +kernel
theorem dX1_add_84 : decode cX1_add 84 = .ok (.aload_n 0, 1) := by decide +kernel
theorem dX1_add_85 : decode cX1_add 85 = .ok (.getfield 19, 3) := by decide +kernel
theorem dX1_add_88 : decode cX1_add 88 = .ok (.iload_n 1, 1) := by decide +kernel
theorem dX1_add_89 : decode cX1_add 89 = .ok (.aaload, 1) := by decide +kernel
theorem dX1_add_90 : decode cX1_add 90 = .ok (.aload 6, 2) := by decide +kernel
theorem dX1_add_92 : decode cX1_add 92 = .ok (.getfield 56, 3) := by decide +kernel
theorem dX1_add_95 : decode cX1_add 95 = .ok (.iload 4, 2) := by decide +kernel
theorem dX1_add_97 : decode cX1_add 97 = .ok (.iastore, 1) := by decide +kernel
theorem dX1_add_98 : decode cX1_add 98 = .ok (.aload 6, 2) := by decide +kernel
theorem dX1_add_100 : decode cX1_add 100 = .ok (.dup, 1) := by decide +kernel
theorem dX1_add_101 : decode cX1_add 101 = .ok (.getfield 56, 3) := by decide +kernel
theorem dX1_add_104 : decode cX1_add 104 = .ok (.iconst 1, 1) := by decide +kernel
theorem dX1_add_105 : decode cX1_add 105 = .ok (.iadd, 1) := by decide +kernel
theorem dX1_add_106 : decode cX1_add 106 = .ok (.putfield 56, 3) := by decide +kernel
theorem dX1_add_109 : decode cX1_add 109 = .ok (.iload 4, 2) := by decide +kernel
theorem dX1_add_111 : decode cX1_add 111 = .ok (.ireturn, 1) := by decide +kernel
theorem dX1_childAt_0 : decode cX1_childAt 0 = .ok (.iload_n 2, 1) := by decide +kernel
theorem dX1_childAt_1 : decode cX1_childAt 1 = .ok (.ifCond .lt 27, 3) := by decide +kernel
theorem dX1_childAt_4 : decode cX1_childAt 4 = .ok (.iload_n 2, 1) := by decide +kernel
theorem dX1_childAt_5 : decode cX1_childAt 5 = .ok (.aload_n 0, 1) := by decide +kernel
theorem dX1_childAt_6 : decode cX1_childAt 6 = .ok (.getfield 11, 3) := by decide +kernel
theorem dX1_childAt_9 : decode cX1_childAt 9 = .ok (.iload_n 1, 1) := by decide +kernel
theorem dX1_childAt_10 : decode cX1_childAt 10 = .ok (.aaload, 1) := by decide +kernel
theorem dX1_childAt_11 : decode cX1_childAt 11 = .ok (.invokevirtual 59, 3) := by decide +kernel
theorem dX1_childAt_14 : decode cX1_childAt 14 = .ok (.if_icmp .ge 14, 3) := by decide +kernel
theorem dX1_childAt_17 : decode cX1_childAt 17 = .ok (.aload_n 0, 1) := by decide +kernel
theorem dX1_childAt_18 : decode cX1_childAt 18 = .ok (.getfield 19, 3) := by decide +kernel
theorem dX1_childAt_21 : decode cX1_childAt 21 = .ok (.iload_n 1, 1) := by decide +kernel
theorem dX1_childAt_22 : decode cX1_childAt 22 = .ok (.aaload, 1) := by decide +kernel
theorem dX1_childAt_23 : decode cX1_childAt 23 = .ok (.iload_n 2, 1) := by decide +kernel
theorem dX1_childAt_24 : decode cX1_childAt 24 = .ok (.iaload, 1) := by decide +kernel
theorem dX1_childAt_25 : decode cX1_childAt 25 = .ok (.goto 4, 3) := by decide +kernel
theorem dX1_childAt_28 : decode cX1_childAt 28 = .ok (.iconst (-1), 1) := by decide +kernel
theorem dX1_childAt_29 : decode cX1_childAt 29 = .ok (.ireturn, 1) := by decide +kernel
theorem dX1_childNamed_0 : decode cX1_childNamed 0 = .ok (.aload_n 0, 1) := by decide +kernel
theorem dX1_childNamed_1 : decode cX1_childNamed 1 = .ok (.getfield 11, 3) := by decide +kernel
theorem dX1_childNamed_4 : decode cX1_childNamed 4 = .ok (.iload_n 1, 1) := by decide +kernel
theorem dX1_childNamed_5 : decode cX1_childNamed 5 = .ok (.aaload, 1) := by decide +kernel
theorem dX1_childNamed_6 : decode cX1_childNamed 6 = .ok (.getfield 63, 3) := by decide +kernel
theorem dX1_childNamed_9 : decode cX1_childNamed 9 = .ok (.bipush 6, 2) := by decide +kernel
theorem dX1_childNamed_11 : decode cX1_childNamed 11 = .ok (.if_icmp .eq 5, 3) := by decide +kernel
theorem dX1_childNamed_14 : decode cX1_childNamed 14 = .ok (.iconst (-1), 1) := by decide +kernel
theorem dX1_childNamed_15 : decode cX1_childNamed 15 = .ok (.ireturn, 1) := by decide +kernel
theorem dX1_childNamed_16 : decode cX1_childNamed 16 = .ok (.iconst 0, 1) := by decide +kernel
theorem dX1_childNamed_17 : decode cX1_childNamed 17 = .ok (.istore_n 3, 1) := by decide +kernel
theorem dX1_childNamed_18 : decode cX1_childNamed 18 = .ok (.iload_n 3, 1) := by decide +kernel
theorem dX1_childNamed_19 : decode cX1_childNamed 19 = .ok (.aload_n 0, 1) := by decide +kernel
theorem dX1_childNamed_20 : decode cX1_childNamed 20 = .ok (.getfield 11, 3) := by decide +kernel
theorem dX1_childNamed_23 : decode cX1_childNamed 23 = .ok (.iload_n 1, 1) := by decide +kernel
theorem dX1_childNamed_24 : decode cX1_childNamed 24 = .ok (.aaload, 1) := by decide +kernel
theorem dX1_childNamed_25 : decode cX1_childNamed 25 = .ok (.getfield 56, 3) := by decide +kernel
theorem dX1_childNamed_28 : decode cX1_childNamed 28 = .ok (.if_icmp .ge 39, 3) := by decide +kernel
theorem dX1_childNamed_31 : decode cX1_childNamed 31 = .ok (.aload_n 0, 1) := by decide +kernel
theorem dX1_childNamed_32 : decode cX1_childNamed 32 = .ok (.getfield 19, 3) := by decide +kernel
theorem dX1_childNamed_35 : decode cX1_childNamed 35 = .ok (.iload_n 1, 1) := by decide +kernel
theorem dX1_childNamed_36 : decode cX1_childNamed 36 = .ok (.aaload, 1) := by decide +kernel
theorem dX1_childNamed_37 : decode cX1_childNamed 37 = .ok (.iload_n 3, 1) := by decide +kernel
theorem dX1_childNamed_38 : decode cX1_childNamed 38 = .ok (.iaload, 1) := by decide +kernel
theorem dX1_childNamed_39 : decode cX1_childNamed 39 = .ok (.istore 4, 2) := by decide +kernel
theorem dX1_childNamed_41 : decode cX1_childNamed 41 = .ok (.aload_n 0, 1) := by decide +kernel
theorem dX1_childNamed_42 : decode cX1_childNamed 42 = .ok (.getfield 11, 3) := by decide +kernel
theorem dX1_childNamed_45 : decode cX1_childNamed 45 = .ok (.iload 4, 2) := by decide +kernel
theorem dX1_childNamed_47 : decode cX1_childNamed 47 = .ok (.aaload, 1) := by decide +kernel
theorem dX1_childNamed_48 : decode cX1_childNamed 48 = .ok (.getfield 40, 3) := by decide +kernel
theorem dX1_childNamed_51 : decode cX1_childNamed 51 = .ok (.aload_n 2, 1) := by decide +kernel
theorem dX1_childNamed_52 : decode cX1_childNamed 52 = .ok (.invokevirtual 66, 3) := by decide +kernel
theorem dX1_childNamed_55 : decode cX1_childNamed 55 = .ok (.ifCond .eq 6, 3) := by decide +kernel
theorem dX1_childNamed_58 : decode cX1_childNamed 58 = .ok (.iload 4, 2) := by decide +kernel
theorem dX1_childNamed_60 : decode cX1_childNamed 60 = .ok (.ireturn, 1) := by decide +kernel
theorem dX1_childNamed_61 : decode cX1_childNamed 61 = .ok (.iinc 3 1, 3) := by decide +kernel
theorem dX1_childNamed_64 : decode cX1_childNamed 64 = .ok (.goto (-46), 3) := by decide +kernel
theorem dX1_childNamed_67 : decode cX1_childNamed 67 = .ok (.iconst (-1), 1) := by decide +kernel
theorem dX1_childNamed_68 : decode cX1_childNamed 68 = .ok (.ireturn, 1) := by decide +kernel
def w_X6_clear (l : Launch) (G : mv_G) (d : Nat) (u0 : Nat) (h : mv_H) (Q : mv_O → mv_H → Prop) : Prop :=
  vpu G h u0 8 1 (.int 0) fun h2 =>
  Q (.inl none) h2
theorem v_X6_clear {l : Launch} {G : mv_G} {d : Nat} {u0 : Nat} {h : mv_H} {Q : mv_O → mv_H → Prop} (hG : mv_ok G) (hq : w_X6_clear l G d u0 h Q) : mv_rq l G mX6_clear d 0 (mv_in [.ref u0] 1) [] h Q := by
  unfold w_X6_clear at hq
  show mv_rq l G mX6_clear d 0 [some (.ref u0)] [] h _
  refine q_aload_n dX6_clear_0 rfl ?_
  refine q_iconst (v := 0) dX6_clear_1 (by decide) ?_
  obtain ⟨fs2, h2, f2, b2, l2, e2, hq⟩ := vpu_e hq
  refine q_putf (k := 1) (T := TX6) (C0 := RX6) (N := 2) (ci := 8) (ty := .int) tyX6 tyX6_ok nmX6 dX6_clear_2 fl_RX6_15 rfl uin_RX6 (by decide) rfl rfl (by decide +kernel) rfl rfl b2 f2 l2 ?_
  rw [← e2]
  show mv_rq l G mX6_clear d 5 [some (.ref u0)] [] h2 _
  exact q_vret dX6_clear_5 rfl hq
def w_X6_add (l : Launch) (G : mv_G) (d : Nat) (u0 : Nat) (u1 : Int32) (h : mv_H) (Q : mv_O → mv_H → Prop) : Prop :=
  vgi h u0 8 1 fun x1 =>
  vif (x1 < 300) (
    vgb h u0 8 0 fun x21 =>
    vgi h u0 8 1 fun x25 =>
    vsi G h x21 1 x25 u1 fun h29 =>
    vgi h29 u0 8 1 fun x32 =>
    vpu G h29 u0 8 1 (.int (x32 + 1)) fun h37 =>
    Q (.inl none) h37) (
    Q (.inr ("java/lang/UnsupportedOperationException", h.1)) (thr h))
theorem v_X6_add {l : Launch} {G : mv_G} {d : Nat} {u0 : Nat} {u1 : Int32} {h : mv_H} {Q : mv_O → mv_H → Prop} (hG : mv_ok G) (hX : mv_okX l G) (hd : 6 ≤ d) (hq : w_X6_add l G d u0 u1 h Q) : mv_rq l G mX6_add (d + 1) 0 (mv_in [.ref u0, .int u1] 2) [] h Q := by
  unfold w_X6_add at hq
  show mv_rq l G mX6_add (d + 1) 0 [some (.ref u0), some (.int u1)] [] h _
  refine q_aload_n dX6_add_0 rfl ?_
  obtain ⟨fs1, x1, f1, g1, hq⟩ := vgi_e hq
  refine q_getf (k := 1) (T := TX6) (C0 := RX6) (N := 2) (ci := 8) dX6_add_1 fl_RX6_15 rfl uin_RX6 (by decide) rfl f1 g1 ?_
  refine q_sipush (v := 300) dX6_add_4 (by decide) ?_
  refine q_icmp_lt (tgt := 20) dX6_add_7 (by decide) (fun c7 => ?_) (fun c7 => ?_)
  ·
    have hq := vif_t hq c7
    refine q_aload_n dX6_add_20 rfl ?_
    obtain ⟨fs21, x21, f21, g21, hq⟩ := vgb_e hq
    refine q_getf (k := 0) (T := TX6) (C0 := RX6) (N := 2) (ci := 8) dX6_add_21 fl_RX6_9 rfl uin_RX6 (by decide) rfl f21 g21 ?_
    refine q_aload_n dX6_add_24 rfl ?_
    obtain ⟨fs25, x25, f25, g25, hq⟩ := vgi_e hq
    refine q_getf (k := 1) (T := TX6) (C0 := RX6) (N := 2) (ci := 8) dX6_add_25 fl_RX6_15 rfl uin_RX6 (by decide) rfl f25 g25 ?_
    refine q_iload_n dX6_add_28 rfl ?_
    obtain ⟨n29, f29, h29, g29, b29, i29, e29, hq⟩ := vsi_e hq
    refine q_iast (t0 := 1) dX6_add_29 (mv_tI hG) b29 g29 i29 ?_
    rw [← e29]
    show mv_rq l G mX6_add (d + 1) 30 [some (.ref u0), some (.int u1)] [] h29 _
    refine q_aload_n dX6_add_30 rfl ?_
    refine q_dup dX6_add_31 rfl ?_
    obtain ⟨fs32, x32, f32, g32, hq⟩ := vgi_e hq
    refine q_getf (k := 1) (T := TX6) (C0 := RX6) (N := 2) (ci := 8) dX6_add_32 fl_RX6_15 rfl uin_RX6 (by decide) rfl f32 g32 ?_
    refine q_iconst (v := 1) dX6_add_35 (by decide) ?_
    refine q_iadd dX6_add_36 ?_
    obtain ⟨fs37, h37, f37, b37, l37, e37, hq⟩ := vpu_e hq
    refine q_putf (k := 1) (T := TX6) (C0 := RX6) (N := 2) (ci := 8) (ty := .int) tyX6 tyX6_ok nmX6 dX6_add_37 fl_RX6_15 rfl uin_RX6 (by decide) rfl rfl (by decide +kernel) rfl rfl b37 f37 l37 ?_
    rw [← e37]
    show mv_rq l G mX6_add (d + 1) 40 [some (.ref u0), some (.int u1)] [] h37 _
    exact q_vret dX6_add_40 rfl hq
  ·
    have hq := vif_f hq c7
    exact q_throw (names := mv_exn) hX.1 (by decide +kernel) (by decide +kernel) cl_RX6_19 ini_UnsupportedOperationException (hX.2.2.2.2.2.2.2.2.1).choose_spec tx_RX6_23 hX.2.1 hX.2.2.1 rfl rfl dX6_add_10 dX6_add_13 dX6_add_14 dX6_add_16 dX6_add_19 (by show 2 + 3 < _; omega) (Nat.le_of_ble_eq_true rfl) hq
def w_X6_addIfThere (l : Launch) (G : mv_G) (d : Nat) (u0 : Nat) (u1 : Int32) (h : mv_H) (Q : mv_O → mv_H → Prop) : Prop :=
  vif (u1 = (-1)) (
    Q (.inl none) h) (
    vob h u0 8 (
    mv_rq l G mX6_add d 0 (mv_in [.ref u0, .int u1] 2) [] h (vU (fun E h1 => Q (.inr E) h1) (fun h7 =>
    Q (.inl none) h7))))
theorem v_X6_addIfThere {l : Launch} {G : mv_G} {d : Nat} {u0 : Nat} {u1 : Int32} {h : mv_H} {Q : mv_O → mv_H → Prop} (hG : mv_ok G) (hq : w_X6_addIfThere l G d u0 u1 h Q) : mv_rq l G mX6_addIfThere (d + 1) 0 (mv_in [.ref u0, .int u1] 2) [] h Q := by
  unfold w_X6_addIfThere at hq
  show mv_rq l G mX6_addIfThere (d + 1) 0 [some (.ref u0), some (.int u1)] [] h _
  refine q_iload_n dX6_addIfThere_0 rfl ?_
  refine q_iconst (v := (-1)) dX6_addIfThere_1 (by decide) ?_
  refine q_icmp_eq (tgt := 10) dX6_addIfThere_2 (by decide) (fun c2 => ?_) (fun c2 => ?_)
  ·
    have hq := vif_t hq c2
    exact q_vret dX6_addIfThere_10 rfl hq
  ·
    have hq := vif_f hq c2
    refine q_aload_n dX6_addIfThere_5 rfl ?_
    refine q_iload_n dX6_addIfThere_6 rfl ?_
    obtain ⟨⟨fs7, f7⟩, hq⟩ := vob_e hq
    refine q_cV (Y := mX6_add) (As := [.int u1]) (st := []) (b := u0) (ci := 8) vc_X6_add dX6_addIfThere_7 ml_RX6_26 rfl f7 rfl (Nat.le_of_ble_eq_true rfl) rfl (Nat.le_of_ble_eq_true rfl) hq (fun v h1 hq1 => ?_) (fun E h1 hq1 => ?_)
    rotate_left
    ·
      rcases hq1 with hq1 | ⟨E1, e1, hq1⟩
      · exact nomatch hq1.1
      · obtain rfl := Sum.inr.inj e1; exact q_xout (fun z hz => nomatch hz) hq1
    rcases hq1 with hq1 | ⟨E1, e1, hq1⟩
    rotate_left
    · exact nomatch e1
    obtain ⟨hv, hq⟩ := hq1
    obtain rfl := Sum.inl.inj hv
    clear hv
    obtain ⟨h7, eh7⟩ : ∃ z, z = h1 := ⟨_, rfl⟩
    rw [← eh7] at hq ⊢
    clear eh7
    show mv_rq l G mX6_addIfThere (d + 1) 10 [some (.ref u0), some (.int u1)] [] h7 _
    exact q_vret dX6_addIfThere_10 rfl hq
def w_X6_addAll (l : Launch) (G : mv_G) (d : Nat) (u0 : Nat) (u1 : Nat) (h : mv_H) (Q : mv_O → mv_H → Prop) : Prop :=
  mv_rq l G mX6_addAll (d + 1) 2 [some (.ref u0), some (.ref u1), some (.int 0)] [] h Q
theorem v_X6_addAll {l : Launch} {G : mv_G} {d : Nat} {u0 : Nat} {u1 : Nat} {h : mv_H} {Q : mv_O → mv_H → Prop} (hG : mv_ok G) (hq : w_X6_addAll l G d u0 u1 h Q) : mv_rq l G mX6_addAll (d + 1) 0 (mv_in [.ref u0, .ref u1] 3) [] h Q := by
  unfold w_X6_addAll at hq
  show mv_rq l G mX6_addAll (d + 1) 0 [some (.ref u0), some (.ref u1), none] [] h _
  refine q_iconst (v := 0) dX6_addAll_0 (by decide) ?_
  refine q_istore_n dX6_addAll_1 (Nat.le_of_ble_eq_true rfl) rfl ?_
  show mv_rq l G mX6_addAll (d + 1) 2 [some (.ref u0), some (.ref u1), some (.int 0)] [] h _
  exact mv_weak (A := [some (.ref u0), some (.ref u1), some (.int 0)]) (by repeat' constructor) hq
def w_X6_addAll_2 (l : Launch) (G : mv_G) (d : Nat) (u0 : Nat) (u1 : Nat) (u2 : Int32) (h : mv_H) (Q : mv_O → mv_H → Prop) : Prop :=
  vgi h u1 8 1 fun x4 =>
  vif (x4 ≤ u2) (
    Q (.inl none) h) (
    vgb h u1 8 0 fun x12 =>
    vai G h x12 1 u2 fun x16 =>
    vob h u0 8 (
    mv_rq l G mX6_add d 0 (mv_in [.ref u0, .int x16] 2) [] h (vU (fun E h1 => Q (.inr E) h1) (fun h17 =>
    mv_rq l G mX6_addAll (d + 1) 2 [some (.ref u0), some (.ref u1), some (.int (u2 + 1))] [] h17 Q))))
theorem v_X6_addAll_2 {l : Launch} {G : mv_G} {d : Nat} {u0 : Nat} {u1 : Nat} {u2 : Int32} {h : mv_H} {Q : mv_O → mv_H → Prop} (hG : mv_ok G) (hq : w_X6_addAll_2 l G d u0 u1 u2 h Q) : mv_rq l G mX6_addAll (d + 1) 2 [some (.ref u0), some (.ref u1), some (.int u2)] [] h Q := by
  unfold w_X6_addAll_2 at hq
  refine q_iload_n dX6_addAll_2 rfl ?_
  refine q_aload_n dX6_addAll_3 rfl ?_
  obtain ⟨fs4, x4, f4, g4, hq⟩ := vgi_e hq
  refine q_getf (k := 1) (T := TX6) (C0 := RX6) (N := 2) (ci := 8) dX6_addAll_4 fl_RX6_15 rfl uin_RX6 (by decide) rfl f4 g4 ?_
  refine q_icmp_ge (tgt := 26) dX6_addAll_7 (by decide) (fun c7 => ?_) (fun c7 => ?_)
  ·
    have hq := vif_t hq c7
    exact q_vret dX6_addAll_26 rfl hq
  ·
    have hq := vif_f hq c7
    refine q_aload_n dX6_addAll_10 rfl ?_
    refine q_aload_n dX6_addAll_11 rfl ?_
    obtain ⟨fs12, x12, f12, g12, hq⟩ := vgb_e hq
    refine q_getf (k := 0) (T := TX6) (C0 := RX6) (N := 2) (ci := 8) dX6_addAll_12 fl_RX6_9 rfl uin_RX6 (by decide) rfl f12 g12 ?_
    refine q_iload_n dX6_addAll_15 rfl ?_
    obtain ⟨n16, f16, x16, g16, i16, e16, hq⟩ := vai_e hq
    refine q_iald (t0 := 1) dX6_addAll_16 (mv_tI hG) g16 i16 ?_
    rw [← e16]
    show mv_rq l G mX6_addAll (d + 1) 17 [some (.ref u0), some (.ref u1), some (.int u2)] [.int x16, .ref u0] h _
    obtain ⟨⟨fs17, f17⟩, hq⟩ := vob_e hq
    refine q_cV (Y := mX6_add) (As := [.int x16]) (st := []) (b := u0) (ci := 8) vc_X6_add dX6_addAll_17 ml_RX6_26 rfl f17 rfl (Nat.le_of_ble_eq_true rfl) rfl (Nat.le_of_ble_eq_true rfl) hq (fun v h1 hq1 => ?_) (fun E h1 hq1 => ?_)
    rotate_left
    ·
      rcases hq1 with hq1 | ⟨E1, e1, hq1⟩
      · exact nomatch hq1.1
      · obtain rfl := Sum.inr.inj e1; exact q_xout (fun z hz => nomatch hz) hq1
    rcases hq1 with hq1 | ⟨E1, e1, hq1⟩
    rotate_left
    · exact nomatch e1
    obtain ⟨hv, hq⟩ := hq1
    obtain rfl := Sum.inl.inj hv
    clear hv
    obtain ⟨h17, eh17⟩ : ∃ z, z = h1 := ⟨_, rfl⟩
    rw [← eh17] at hq ⊢
    clear eh17
    show mv_rq l G mX6_addAll (d + 1) 20 [some (.ref u0), some (.ref u1), some (.int u2)] [] h17 _
    refine q_iinc dX6_addAll_20 rfl rfl ?_
    show mv_rq l G mX6_addAll (d + 1) 23 [some (.ref u0), some (.ref u1), some (.int (u2 + 1))] [] h17 _
    refine q_goto (tgt := 2) dX6_addAll_23 (by decide) ?_
    exact mv_weak (A := [some (.ref u0), some (.ref u1), some (.int (u2 + 1))]) (by repeat' constructor) hq
def w_X1_restart (l : Launch) (G : mv_G) (d : Nat) (u0 : Nat) (u1 : Nat) (h : mv_H) (Q : mv_O → mv_H → Prop) : Prop :=
  vpu G h u0 3 2 (.ref u1) fun h2 =>
  vpu G h2 u0 3 3 (.int 0) fun h7 =>
  Q (.inl none) h7
theorem v_X1_restart {l : Launch} {G : mv_G} {d : Nat} {u0 : Nat} {u1 : Nat} {h : mv_H} {Q : mv_O → mv_H → Prop} (hG : mv_ok G) (hq : w_X1_restart l G d u0 u1 h Q) : mv_rq l G mX1_restart d 0 (mv_in [.ref u0, .ref u1] 2) [] h Q := by
  unfold w_X1_restart at hq
  show mv_rq l G mX1_restart d 0 [some (.ref u0), some (.ref u1)] [] h _
  refine q_aload_n dX1_restart_0 rfl ?_
  refine q_aload_n dX1_restart_1 rfl ?_
  obtain ⟨fs2, h2, f2, b2, l2, e2, hq⟩ := vpu_e hq
  refine q_putf (k := 2) (T := TX1) (C0 := RX1) (N := 4) (ci := 3) (ty := (.object "java/lang/String")) tyX1 tyX1_ok nmX1 dX1_restart_2 fl_RX1_24 rfl uin_RX1 (by decide) rfl rfl (by decide +kernel) rfl rfl b2 f2 l2 ?_
  rw [← e2]
  show mv_rq l G mX1_restart d 5 [some (.ref u0), some (.ref u1)] [] h2 _
  refine q_aload_n dX1_restart_5 rfl ?_
  refine q_iconst (v := 0) dX1_restart_6 (by decide) ?_
  obtain ⟨fs7, h7, f7, b7, l7, e7, hq⟩ := vpu_e hq
  refine q_putf (k := 3) (T := TX1) (C0 := RX1) (N := 4) (ci := 3) (ty := .int) tyX1 tyX1_ok nmX1 dX1_restart_7 fl_RX1_28 rfl uin_RX1 (by decide) rfl rfl (by decide +kernel) rfl rfl b7 f7 l7 ?_
  rw [← e7]
  show mv_rq l G mX1_restart d 10 [some (.ref u0), some (.ref u1)] [] h7 _
  exact q_vret dX1_restart_10 rfl hq
def w_X1_has (l : Launch) (G : mv_G) (d : Nat) (u0 : Nat) (u1 : Int32) (h : mv_H) (Q : mv_O → mv_H → Prop) : Prop :=
  vif (u1 < 0) (
    Q (.inl (some (.int 0))) h) (
    vgi h u0 3 3 fun x6 =>
    vif (x6 ≤ u1) (
      Q (.inl (some (.int 0))) h) (
      Q (.inl (some (.int 1))) h))
theorem v_X1_has {l : Launch} {G : mv_G} {d : Nat} {u0 : Nat} {u1 : Int32} {h : mv_H} {Q : mv_O → mv_H → Prop} (hG : mv_ok G) (hq : w_X1_has l G d u0 u1 h Q) : mv_rq l G mX1_has d 0 (mv_in [.ref u0, .int u1] 2) [] h Q := by
  unfold w_X1_has at hq
  show mv_rq l G mX1_has d 0 [some (.ref u0), some (.int u1)] [] h _
  refine q_iload_n dX1_has_0 rfl ?_
  refine q_if_lt (tgt := 16) dX1_has_1 (by decide) (fun c1 => ?_) (fun c1 => ?_)
  ·
    have hq := vif_t hq c1
    refine q_iconst (v := 0) dX1_has_16 (by decide) ?_
    exact q_iret (ty := .boolean) dX1_has_17 rfl rfl hq
  ·
    have hq := vif_f hq c1
    refine q_iload_n dX1_has_4 rfl ?_
    refine q_aload_n dX1_has_5 rfl ?_
    obtain ⟨fs6, x6, f6, g6, hq⟩ := vgi_e hq
    refine q_getf (k := 3) (T := TX1) (C0 := RX1) (N := 4) (ci := 3) dX1_has_6 fl_RX1_28 rfl uin_RX1 (by decide) rfl f6 g6 ?_
    refine q_icmp_ge (tgt := 16) dX1_has_9 (by decide) (fun c9 => ?_) (fun c9 => ?_)
    ·
      have hq := vif_t hq c9
      refine q_iconst (v := 0) dX1_has_16 (by decide) ?_
      exact q_iret (ty := .boolean) dX1_has_17 rfl rfl hq
    ·
      have hq := vif_f hq c9
      refine q_iconst (v := 1) dX1_has_12 (by decide) ?_
      refine q_goto (tgt := 17) dX1_has_13 (by decide) ?_
      exact q_iret (ty := .boolean) dX1_has_17 rfl rfl hq
def w_X1_add (l : Launch) (G : mv_G) (d : Nat) (u0 : Nat) (u1 : Int32) (u2 : Nat) (u3 : Int32) (h : mv_H) (Q : mv_O → mv_H → Prop) : Prop :=
  vgi h u0 3 3 fun x1 =>
  vgi h u0 3 3 fun x8 =>
  vpu G h u0 3 3 (.int (x8 + 1)) fun h13 =>
  vgb h13 u0 3 0 fun x17 =>
  vab G h13 x17 4 x1 fun x22 =>
  vst G RX1 22 "" fun a29 =>
  vob h13 x22 13 (
  mv_rq l G mX11_become d 0 (mv_in [.ref x22, .int 0, .int 0, .ref a29] 4) [] h13 (vU (fun E h1 => Q (.inr E) h1) (fun h31 =>
  vpu G h31 x22 13 4 (.ref u2) fun h37 =>
  vpu G h37 x22 13 5 (.int u1) fun h43 =>
  vpu G h43 x22 13 8 (.int u3) fun h49 =>
  vpu G h49 x22 13 6 (.int 0) fun h55 =>
  vob h55 u0 3 (
  mv_rq l G mX1_has d 0 (mv_in [.ref u0, .int u1] 2) [] h55 (vI (fun E h1 => Q (.inr E) h1) (fun x60 h60 =>
  vif (x60 = 0) (
    Q (.inl (some (.int x1))) h60) (
    vgb h60 u0 3 0 fun x67 =>
    vab G h60 x67 4 u1 fun x71 =>
    vgi h60 x71 13 1 fun x78 =>
    vpu G h60 x22 13 6 (.int x78) fun h81 =>
    vgb h81 u0 3 1 fun x85 =>
    vab G h81 x85 6 u1 fun x89 =>
    vgi h81 x71 13 1 fun x92 =>
    vsi G h81 x89 1 x92 x1 fun h97 =>
    vgi h97 x71 13 1 fun x101 =>
    vpu G h97 x71 13 1 (.int (x101 + 1)) fun h106 =>
    Q (.inl (some (.int x1))) h106)))))))
theorem v_X1_add {l : Launch} {G : mv_G} {d : Nat} {u0 : Nat} {u1 : Int32} {u2 : Nat} {u3 : Int32} {h : mv_H} {Q : mv_O → mv_H → Prop} (hG : mv_ok G) (hq : w_X1_add l G d u0 u1 u2 u3 h Q) : mv_rq l G mX1_add (d + 1) 0 (mv_in [.ref u0, .int u1, .ref u2, .int u3] 7) [] h Q := by
  unfold w_X1_add at hq
  show mv_rq l G mX1_add (d + 1) 0 [some (.ref u0), some (.int u1), some (.ref u2), some (.int u3), none, none, none] [] h _
  refine q_aload_n dX1_add_0 rfl ?_
  obtain ⟨fs1, x1, f1, g1, hq⟩ := vgi_e hq
  refine q_getf (k := 3) (T := TX1) (C0 := RX1) (N := 4) (ci := 3) dX1_add_1 fl_RX1_28 rfl uin_RX1 (by decide) rfl f1 g1 ?_
  refine q_istore dX1_add_4 (Nat.le_of_ble_eq_true rfl) rfl ?_
  show mv_rq l G mX1_add (d + 1) 6 [some (.ref u0), some (.int u1), some (.ref u2), some (.int u3), some (.int x1), none, none] [] h _
  refine q_aload_n dX1_add_6 rfl ?_
  refine q_dup dX1_add_7 rfl ?_
  obtain ⟨fs8, x8, f8, g8, hq⟩ := vgi_e hq
  refine q_getf (k := 3) (T := TX1) (C0 := RX1) (N := 4) (ci := 3) dX1_add_8 fl_RX1_28 rfl uin_RX1 (by decide) rfl f8 g8 ?_
  refine q_iconst (v := 1) dX1_add_11 (by decide) ?_
  refine q_iadd dX1_add_12 ?_
  obtain ⟨fs13, h13, f13, b13, l13, e13, hq⟩ := vpu_e hq
  refine q_putf (k := 3) (T := TX1) (C0 := RX1) (N := 4) (ci := 3) (ty := .int) tyX1 tyX1_ok nmX1 dX1_add_13 fl_RX1_28 rfl uin_RX1 (by decide) rfl rfl (by decide +kernel) rfl rfl b13 f13 l13 ?_
  rw [← e13]
  show mv_rq l G mX1_add (d + 1) 16 [some (.ref u0), some (.int u1), some (.ref u2), some (.int u3), some (.int x1), none, none] [] h13 _
  refine q_aload_n dX1_add_16 rfl ?_
  obtain ⟨fs17, x17, f17, g17, hq⟩ := vgb_e hq
  refine q_getf (k := 0) (T := TX1) (C0 := RX1) (N := 4) (ci := 3) dX1_add_17 fl_RX1_11 rfl uin_RX1 (by decide) rfl f17 g17 ?_
  refine q_iload dX1_add_20 rfl ?_
  obtain ⟨n22, f22, x22, g22, i22, e22, hq⟩ := vab_e hq
  refine q_aald (t0 := 4) dX1_add_22 (mv_ty hG (t := 4) rfl) g22 i22 ?_
  rw [e22]
  show mv_rq l G mX1_add (d + 1) 23 [some (.ref u0), some (.int u1), some (.ref u2), some (.int u3), some (.int x1), none, none] [.ref x22] h13 _
  refine q_astore dX1_add_23 (Nat.le_of_ble_eq_true rfl) rfl ?_
  show mv_rq l G mX1_add (d + 1) 25 [some (.ref u0), some (.int u1), some (.ref u2), some (.int u3), some (.int x1), some (.ref x22), none] [] h13 _
  refine q_aload dX1_add_25 rfl ?_
  refine q_iconst (v := 0) dX1_add_27 (by decide) ?_
  refine q_iconst (v := 0) dX1_add_28 (by decide) ?_
  obtain ⟨a29, ea29, hq⟩ := vst_e hq
  refine q_ldcS dX1_add_29 ea29 ?_
  obtain ⟨⟨fs31, f31⟩, hq⟩ := vob_e hq
  refine q_cV (Y := mX11_become) (As := [.int 0, .int 0, .ref a29]) (st := []) (b := x22) (ci := 13) vc_X11_become dX1_add_31 ml_RX1_36 rfl f31 rfl (Nat.le_of_ble_eq_true rfl) rfl (Nat.le_of_ble_eq_true rfl) hq (fun v h1 hq1 => ?_) (fun E h1 hq1 => ?_)
  rotate_left
  ·
    rcases hq1 with hq1 | ⟨E1, e1, hq1⟩
    · exact nomatch hq1.1
    · obtain rfl := Sum.inr.inj e1; exact q_xout (fun z hz => nomatch hz) hq1
  rcases hq1 with hq1 | ⟨E1, e1, hq1⟩
  rotate_left
  · exact nomatch e1
  obtain ⟨hv, hq⟩ := hq1
  obtain rfl := Sum.inl.inj hv
  clear hv
  obtain ⟨h31, eh31⟩ : ∃ z, z = h1 := ⟨_, rfl⟩
  rw [← eh31] at hq ⊢
  clear eh31
  show mv_rq l G mX1_add (d + 1) 34 [some (.ref u0), some (.int u1), some (.ref u2), some (.int u3), some (.int x1), some (.ref x22), none] [] h31 _
  refine q_aload dX1_add_34 rfl ?_
  refine q_aload_n dX1_add_36 rfl ?_
  obtain ⟨fs37, h37, f37, b37, l37, e37, hq⟩ := vpu_e hq
  refine q_putf (k := 4) (T := TX11) (C0 := RX11) (N := 10) (ci := 13) (ty := (.object "java/lang/String")) tyX11 tyX11_ok nmX11 dX1_add_37 fl_RX1_40 rfl uin_RX11 (by decide) rfl rfl (by decide +kernel) rfl rfl b37 f37 l37 ?_
  rw [← e37]
  show mv_rq l G mX1_add (d + 1) 40 [some (.ref u0), some (.int u1), some (.ref u2), some (.int u3), some (.int x1), some (.ref x22), none] [] h37 _
  refine q_aload dX1_add_40 rfl ?_
  refine q_iload_n dX1_add_42 rfl ?_
  obtain ⟨fs43, h43, f43, b43, l43, e43, hq⟩ := vpu_e hq
  refine q_putf (k := 5) (T := TX11) (C0 := RX11) (N := 10) (ci := 13) (ty := .int) tyX11 tyX11_ok nmX11 dX1_add_43 fl_RX1_43 rfl uin_RX11 (by decide) rfl rfl (by decide +kernel) rfl rfl b43 f43 l43 ?_
  rw [← e43]
  show mv_rq l G mX1_add (d + 1) 46 [some (.ref u0), some (.int u1), some (.ref u2), some (.int u3), some (.int x1), some (.ref x22), none] [] h43 _
  refine q_aload dX1_add_46 rfl ?_
  refine q_iload_n dX1_add_48 rfl ?_
  obtain ⟨fs49, h49, f49, b49, l49, e49, hq⟩ := vpu_e hq
  refine q_putf (k := 8) (T := TX11) (C0 := RX11) (N := 10) (ci := 13) (ty := .int) tyX11 tyX11_ok nmX11 dX1_add_49 fl_RX1_46 rfl uin_RX11 (by decide) rfl rfl (by decide +kernel) rfl rfl b49 f49 l49 ?_
  rw [← e49]
  show mv_rq l G mX1_add (d + 1) 52 [some (.ref u0), some (.int u1), some (.ref u2), some (.int u3), some (.int x1), some (.ref x22), none] [] h49 _
  refine q_aload dX1_add_52 rfl ?_
  refine q_iconst (v := 0) dX1_add_54 (by decide) ?_
  obtain ⟨fs55, h55, f55, b55, l55, e55, hq⟩ := vpu_e hq
  refine q_putf (k := 6) (T := TX11) (C0 := RX11) (N := 10) (ci := 13) (ty := .int) tyX11 tyX11_ok nmX11 dX1_add_55 fl_RX1_49 rfl uin_RX11 (by decide) rfl rfl (by decide +kernel) rfl rfl b55 f55 l55 ?_
  rw [← e55]
  show mv_rq l G mX1_add (d + 1) 58 [some (.ref u0), some (.int u1), some (.ref u2), some (.int u3), some (.int x1), some (.ref x22), none] [] h55 _
  refine q_aload_n dX1_add_58 rfl ?_
  refine q_iload_n dX1_add_59 rfl ?_
  obtain ⟨⟨fs60, f60⟩, hq⟩ := vob_e hq
  refine q_cV (Y := mX1_has) (As := [.int u1]) (st := []) (b := u0) (ci := 3) vc_X1_has dX1_add_60 ml_RX1_52 rfl f60 rfl (Nat.le_of_ble_eq_true rfl) rfl (Nat.le_of_ble_eq_true rfl) hq (fun v h1 hq1 => ?_) (fun E h1 hq1 => ?_)
  rotate_left
  ·
    rcases hq1 with hq1 | ⟨E1, e1, hq1⟩
    · obtain ⟨_, z, _⟩ := hq1; exact nomatch z
    · obtain rfl := Sum.inr.inj e1; exact q_xout (fun z hz => nomatch hz) hq1
  rcases hq1 with hq1 | ⟨E1, e1, hq1⟩
  rotate_left
  · exact nomatch e1
  obtain ⟨x60, hv, hq⟩ := hq1
  obtain rfl := Sum.inl.inj hv
  clear hv
  obtain ⟨h60, eh60⟩ : ∃ z, z = h1 := ⟨_, rfl⟩
  rw [← eh60] at hq ⊢
  clear eh60
  show mv_rq l G mX1_add (d + 1) 63 [some (.ref u0), some (.int u1), some (.ref u2), some (.int u3), some (.int x1), some (.ref x22), none] [.int x60] h60 _
  refine q_if_eq (tgt := 109) dX1_add_63 (by decide) (fun c63 => ?_) (fun c63 => ?_)
  ·
    have hq := vif_t hq c63
    refine q_iload dX1_add_109 rfl ?_
    exact q_iret (ty := .int) dX1_add_111 rfl rfl hq
  ·
    have hq := vif_f hq c63
    refine q_aload_n dX1_add_66 rfl ?_
    obtain ⟨fs67, x67, f67, g67, hq⟩ := vgb_e hq
    refine q_getf (k := 0) (T := TX1) (C0 := RX1) (N := 4) (ci := 3) dX1_add_67 fl_RX1_11 rfl uin_RX1 (by decide) rfl f67 g67 ?_
    refine q_iload_n dX1_add_70 rfl ?_
    obtain ⟨n71, f71, x71, g71, i71, e71, hq⟩ := vab_e hq
    refine q_aald (t0 := 4) dX1_add_71 (mv_ty hG (t := 4) rfl) g71 i71 ?_
    rw [e71]
    show mv_rq l G mX1_add (d + 1) 72 [some (.ref u0), some (.int u1), some (.ref u2), some (.int u3), some (.int x1), some (.ref x22), none] [.ref x71] h60 _
    refine q_astore dX1_add_72 (Nat.le_of_ble_eq_true rfl) rfl ?_
    show mv_rq l G mX1_add (d + 1) 74 [some (.ref u0), some (.int u1), some (.ref u2), some (.int u3), some (.int x1), some (.ref x22), some (.ref x71)] [] h60 _
    refine q_aload dX1_add_74 rfl ?_
    refine q_aload dX1_add_76 rfl ?_
    obtain ⟨fs78, x78, f78, g78, hq⟩ := vgi_e hq
    refine q_getf (k := 1) (T := TX11) (C0 := RX11) (N := 10) (ci := 13) dX1_add_78 fl_RX1_56 rfl uin_RX11 (by decide) rfl f78 g78 ?_
    obtain ⟨fs81, h81, f81, b81, l81, e81, hq⟩ := vpu_e hq
    refine q_putf (k := 6) (T := TX11) (C0 := RX11) (N := 10) (ci := 13) (ty := .int) tyX11 tyX11_ok nmX11 dX1_add_81 fl_RX1_49 rfl uin_RX11 (by decide) rfl rfl (by decide +kernel) rfl rfl b81 f81 l81 ?_
    rw [← e81]
    show mv_rq l G mX1_add (d + 1) 84 [some (.ref u0), some (.int u1), some (.ref u2), some (.int u3), some (.int x1), some (.ref x22), some (.ref x71)] [] h81 _
    refine q_aload_n dX1_add_84 rfl ?_
    obtain ⟨fs85, x85, f85, g85, hq⟩ := vgb_e hq
    refine q_getf (k := 1) (T := TX1) (C0 := RX1) (N := 4) (ci := 3) dX1_add_85 fl_RX1_19 rfl uin_RX1 (by decide) rfl f85 g85 ?_
    refine q_iload_n dX1_add_88 rfl ?_
    obtain ⟨n89, f89, x89, g89, i89, e89, hq⟩ := vab_e hq
    refine q_aaldA (t0 := 6) dX1_add_89 (mv_ty hG (t := 6) rfl) g89 i89 ?_
    rw [e89]
    show mv_rq l G mX1_add (d + 1) 90 [some (.ref u0), some (.int u1), some (.ref u2), some (.int u3), some (.int x1), some (.ref x22), some (.ref x71)] [.ref x89] h81 _
    refine q_aload dX1_add_90 rfl ?_
    obtain ⟨fs92, x92, f92, g92, hq⟩ := vgi_e hq
    refine q_getf (k := 1) (T := TX11) (C0 := RX11) (N := 10) (ci := 13) dX1_add_92 fl_RX1_56 rfl uin_RX11 (by decide) rfl f92 g92 ?_
    refine q_iload dX1_add_95 rfl ?_
    obtain ⟨n97, f97, h97, g97, b97, i97, e97, hq⟩ := vsi_e hq
    refine q_iast (t0 := 1) dX1_add_97 (mv_tI hG) b97 g97 i97 ?_
    rw [← e97]
    show mv_rq l G mX1_add (d + 1) 98 [some (.ref u0), some (.int u1), some (.ref u2), some (.int u3), some (.int x1), some (.ref x22), some (.ref x71)] [] h97 _
    refine q_aload dX1_add_98 rfl ?_
    refine q_dup dX1_add_100 rfl ?_
    obtain ⟨fs101, x101, f101, g101, hq⟩ := vgi_e hq
    refine q_getf (k := 1) (T := TX11) (C0 := RX11) (N := 10) (ci := 13) dX1_add_101 fl_RX1_56 rfl uin_RX11 (by decide) rfl f101 g101 ?_
    refine q_iconst (v := 1) dX1_add_104 (by decide) ?_
    refine q_iadd dX1_add_105 ?_
    obtain ⟨fs106, h106, f106, b106, l106, e106, hq⟩ := vpu_e hq
    refine q_putf (k := 1) (T := TX11) (C0 := RX11) (N := 10) (ci := 13) (ty := .int) tyX11 tyX11_ok nmX11 dX1_add_106 fl_RX1_56 rfl uin_RX11 (by decide) rfl rfl (by decide +kernel) rfl rfl b106 f106 l106 ?_
    rw [← e106]
    show mv_rq l G mX1_add (d + 1) 109 [some (.ref u0), some (.int u1), some (.ref u2), some (.int u3), some (.int x1), some (.ref x22), some (.ref x71)] [] h106 _
    refine q_iload dX1_add_109 rfl ?_
    exact q_iret (ty := .int) dX1_add_111 rfl rfl hq
def w_X1_childAt (l : Launch) (G : mv_G) (d : Nat) (u0 : Nat) (u1 : Int32) (u2 : Int32) (h : mv_H) (Q : mv_O → mv_H → Prop) : Prop :=
  vif (u2 < 0) (
    Q (.inl (some (.int (-1)))) h) (
    vgb h u0 3 0 fun x6 =>
    vab G h x6 4 u1 fun x10 =>
    vob h x10 13 (
    mv_rq l G mX11_childCount d 0 (mv_in [.ref x10] 1) [] h (vI (fun E h1 => Q (.inr E) h1) (fun x11 h11 =>
    vif (x11 ≤ u2) (
      Q (.inl (some (.int (-1)))) h11) (
      vgb h11 u0 3 1 fun x18 =>
      vab G h11 x18 6 u1 fun x22 =>
      vai G h11 x22 1 u2 fun x24 =>
      Q (.inl (some (.int x24))) h11)))))
theorem v_X1_childAt {l : Launch} {G : mv_G} {d : Nat} {u0 : Nat} {u1 : Int32} {u2 : Int32} {h : mv_H} {Q : mv_O → mv_H → Prop} (hG : mv_ok G) (hq : w_X1_childAt l G d u0 u1 u2 h Q) : mv_rq l G mX1_childAt (d + 1) 0 (mv_in [.ref u0, .int u1, .int u2] 3) [] h Q := by
  unfold w_X1_childAt at hq
  show mv_rq l G mX1_childAt (d + 1) 0 [some (.ref u0), some (.int u1), some (.int u2)] [] h _
  refine q_iload_n dX1_childAt_0 rfl ?_
  refine q_if_lt (tgt := 28) dX1_childAt_1 (by decide) (fun c1 => ?_) (fun c1 => ?_)
  ·
    have hq := vif_t hq c1
    refine q_iconst (v := (-1)) dX1_childAt_28 (by decide) ?_
    exact q_iret (ty := .int) dX1_childAt_29 rfl rfl hq
  ·
    have hq := vif_f hq c1
    refine q_iload_n dX1_childAt_4 rfl ?_
    refine q_aload_n dX1_childAt_5 rfl ?_
    obtain ⟨fs6, x6, f6, g6, hq⟩ := vgb_e hq
    refine q_getf (k := 0) (T := TX1) (C0 := RX1) (N := 4) (ci := 3) dX1_childAt_6 fl_RX1_11 rfl uin_RX1 (by decide) rfl f6 g6 ?_
    refine q_iload_n dX1_childAt_9 rfl ?_
    obtain ⟨n10, f10, x10, g10, i10, e10, hq⟩ := vab_e hq
    refine q_aald (t0 := 4) dX1_childAt_10 (mv_ty hG (t := 4) rfl) g10 i10 ?_
    rw [e10]
    show mv_rq l G mX1_childAt (d + 1) 11 [some (.ref u0), some (.int u1), some (.int u2)] [.ref x10, .int u2] h _
    obtain ⟨⟨fs11, f11⟩, hq⟩ := vob_e hq
    refine q_cV (Y := mX11_childCount) (As := []) (st := [.int u2]) (b := x10) (ci := 13) vc_X11_childCount dX1_childAt_11 ml_RX1_59 rfl f11 rfl (Nat.le_of_ble_eq_true rfl) rfl (Nat.le_of_ble_eq_true rfl) hq (fun v h1 hq1 => ?_) (fun E h1 hq1 => ?_)
    rotate_left
    ·
      rcases hq1 with hq1 | ⟨E1, e1, hq1⟩
      · obtain ⟨_, z, _⟩ := hq1; exact nomatch z
      · obtain rfl := Sum.inr.inj e1; exact q_xout (fun z hz => nomatch hz) hq1
    rcases hq1 with hq1 | ⟨E1, e1, hq1⟩
    rotate_left
    · exact nomatch e1
    obtain ⟨x11, hv, hq⟩ := hq1
    obtain rfl := Sum.inl.inj hv
    clear hv
    obtain ⟨h11, eh11⟩ : ∃ z, z = h1 := ⟨_, rfl⟩
    rw [← eh11] at hq ⊢
    clear eh11
    show mv_rq l G mX1_childAt (d + 1) 14 [some (.ref u0), some (.int u1), some (.int u2)] [.int x11, .int u2] h11 _
    refine q_icmp_ge (tgt := 28) dX1_childAt_14 (by decide) (fun c14 => ?_) (fun c14 => ?_)
    ·
      have hq := vif_t hq c14
      refine q_iconst (v := (-1)) dX1_childAt_28 (by decide) ?_
      exact q_iret (ty := .int) dX1_childAt_29 rfl rfl hq
    ·
      have hq := vif_f hq c14
      refine q_aload_n dX1_childAt_17 rfl ?_
      obtain ⟨fs18, x18, f18, g18, hq⟩ := vgb_e hq
      refine q_getf (k := 1) (T := TX1) (C0 := RX1) (N := 4) (ci := 3) dX1_childAt_18 fl_RX1_19 rfl uin_RX1 (by decide) rfl f18 g18 ?_
      refine q_iload_n dX1_childAt_21 rfl ?_
      obtain ⟨n22, f22, x22, g22, i22, e22, hq⟩ := vab_e hq
      refine q_aaldA (t0 := 6) dX1_childAt_22 (mv_ty hG (t := 6) rfl) g22 i22 ?_
      rw [e22]
      show mv_rq l G mX1_childAt (d + 1) 23 [some (.ref u0), some (.int u1), some (.int u2)] [.ref x22] h11 _
      refine q_iload_n dX1_childAt_23 rfl ?_
      obtain ⟨n24, f24, x24, g24, i24, e24, hq⟩ := vai_e hq
      refine q_iald (t0 := 1) dX1_childAt_24 (mv_tI hG) g24 i24 ?_
      rw [← e24]
      show mv_rq l G mX1_childAt (d + 1) 25 [some (.ref u0), some (.int u1), some (.int u2)] [.int x24] h11 _
      refine q_goto (tgt := 29) dX1_childAt_25 (by decide) ?_
      exact q_iret (ty := .int) dX1_childAt_29 rfl rfl hq
def w_X1_childNamed (l : Launch) (G : mv_G) (d : Nat) (u0 : Nat) (u1 : Int32) (u2 : Nat) (h : mv_H) (Q : mv_O → mv_H → Prop) : Prop :=
  vgb h u0 3 0 fun x1 =>
  vab G h x1 4 u1 fun x5 =>
  vgi h x5 13 0 fun x6 =>
  vif (x6 = 6) (
    mv_rq l G mX1_childNamed (d + 1) 18 [some (.ref u0), some (.int u1), some (.ref u2), some (.int 0), none] [] h Q) (
    Q (.inl (some (.int (-1)))) h)
theorem v_X1_childNamed {l : Launch} {G : mv_G} {d : Nat} {u0 : Nat} {u1 : Int32} {u2 : Nat} {h : mv_H} {Q : mv_O → mv_H → Prop} (hG : mv_ok G) (hq : w_X1_childNamed l G d u0 u1 u2 h Q) : mv_rq l G mX1_childNamed (d + 1) 0 (mv_in [.ref u0, .int u1, .ref u2] 5) [] h Q := by
  unfold w_X1_childNamed at hq
  show mv_rq l G mX1_childNamed (d + 1) 0 [some (.ref u0), some (.int u1), some (.ref u2), none, none] [] h _
  refine q_aload_n dX1_childNamed_0 rfl ?_
  obtain ⟨fs1, x1, f1, g1, hq⟩ := vgb_e hq
  refine q_getf (k := 0) (T := TX1) (C0 := RX1) (N := 4) (ci := 3) dX1_childNamed_1 fl_RX1_11 rfl uin_RX1 (by decide) rfl f1 g1 ?_
  refine q_iload_n dX1_childNamed_4 rfl ?_
  obtain ⟨n5, f5, x5, g5, i5, e5, hq⟩ := vab_e hq
  refine q_aald (t0 := 4) dX1_childNamed_5 (mv_ty hG (t := 4) rfl) g5 i5 ?_
  rw [e5]
  show mv_rq l G mX1_childNamed (d + 1) 6 [some (.ref u0), some (.int u1), some (.ref u2), none, none] [.ref x5] h _
  obtain ⟨fs6, x6, f6, g6, hq⟩ := vgi_e hq
  refine q_getf (k := 0) (T := TX11) (C0 := RX11) (N := 10) (ci := 13) dX1_childNamed_6 fl_RX1_63 rfl uin_RX11 (by decide) rfl f6 g6 ?_
  refine q_bipush (v := 6) dX1_childNamed_9 (by decide) ?_
  refine q_icmp_eq (tgt := 16) dX1_childNamed_11 (by decide) (fun c11 => ?_) (fun c11 => ?_)
  ·
    have hq := vif_t hq c11
    refine q_iconst (v := 0) dX1_childNamed_16 (by decide) ?_
    refine q_istore_n dX1_childNamed_17 (Nat.le_of_ble_eq_true rfl) rfl ?_
    show mv_rq l G mX1_childNamed (d + 1) 18 [some (.ref u0), some (.int u1), some (.ref u2), some (.int 0), none] [] h _
    exact mv_weak (A := [some (.ref u0), some (.int u1), some (.ref u2), some (.int 0), none]) (by repeat' constructor) hq
  ·
    have hq := vif_f hq c11
    refine q_iconst (v := (-1)) dX1_childNamed_14 (by decide) ?_
    exact q_iret (ty := .int) dX1_childNamed_15 rfl rfl hq
def w_X1_childNamed_18 (l : Launch) (G : mv_G) (d : Nat) (u0 : Nat) (u1 : Int32) (u2 : Nat) (u3 : Int32) (h : mv_H) (Q : mv_O → mv_H → Prop) : Prop :=
  vgb h u0 3 0 fun x20 =>
  vab G h x20 4 u1 fun x24 =>
  vgi h x24 13 1 fun x25 =>
  vif (x25 ≤ u3) (
    Q (.inl (some (.int (-1)))) h) (
    vgb h u0 3 1 fun x32 =>
    vab G h x32 6 u1 fun x36 =>
    vai G h x36 1 u3 fun x38 =>
    vgb h u0 3 0 fun x42 =>
    vab G h x42 4 x38 fun x47 =>
    vgb h x47 13 4 fun x48 =>
    vob h x48 0 (
    mv_rq l G mJ0_equals_9ea2d d 0 (mv_in [.ref x48, .ref u2] 3) [] h (vI (fun E h1 => Q (.inr E) h1) (fun x52 h52 =>
    vif (x52 = 0) (
      mv_rq l G mX1_childNamed (d + 1) 18 [some (.ref u0), some (.int u1), some (.ref u2), some (.int (u3 + 1)), none] [] h52 Q) (
      Q (.inl (some (.int x38))) h52)))))
theorem v_X1_childNamed_18 {l : Launch} {G : mv_G} {d : Nat} {u0 : Nat} {u1 : Int32} {u2 : Nat} {u3 : Int32} {h : mv_H} {Q : mv_O → mv_H → Prop} (hG : mv_ok G) (hq : w_X1_childNamed_18 l G d u0 u1 u2 u3 h Q) : mv_rq l G mX1_childNamed (d + 1) 18 [some (.ref u0), some (.int u1), some (.ref u2), some (.int u3), none] [] h Q := by
  unfold w_X1_childNamed_18 at hq
  refine q_iload_n dX1_childNamed_18 rfl ?_
  refine q_aload_n dX1_childNamed_19 rfl ?_
  obtain ⟨fs20, x20, f20, g20, hq⟩ := vgb_e hq
  refine q_getf (k := 0) (T := TX1) (C0 := RX1) (N := 4) (ci := 3) dX1_childNamed_20 fl_RX1_11 rfl uin_RX1 (by decide) rfl f20 g20 ?_
  refine q_iload_n dX1_childNamed_23 rfl ?_
  obtain ⟨n24, f24, x24, g24, i24, e24, hq⟩ := vab_e hq
  refine q_aald (t0 := 4) dX1_childNamed_24 (mv_ty hG (t := 4) rfl) g24 i24 ?_
  rw [e24]
  show mv_rq l G mX1_childNamed (d + 1) 25 [some (.ref u0), some (.int u1), some (.ref u2), some (.int u3), none] [.ref x24, .int u3] h _
  obtain ⟨fs25, x25, f25, g25, hq⟩ := vgi_e hq
  refine q_getf (k := 1) (T := TX11) (C0 := RX11) (N := 10) (ci := 13) dX1_childNamed_25 fl_RX1_56 rfl uin_RX11 (by decide) rfl f25 g25 ?_
  refine q_icmp_ge (tgt := 67) dX1_childNamed_28 (by decide) (fun c28 => ?_) (fun c28 => ?_)
  ·
    have hq := vif_t hq c28
    refine q_iconst (v := (-1)) dX1_childNamed_67 (by decide) ?_
    exact q_iret (ty := .int) dX1_childNamed_68 rfl rfl hq
  ·
    have hq := vif_f hq c28
    refine q_aload_n dX1_childNamed_31 rfl ?_
    obtain ⟨fs32, x32, f32, g32, hq⟩ := vgb_e hq
    refine q_getf (k := 1) (T := TX1) (C0 := RX1) (N := 4) (ci := 3) dX1_childNamed_32 fl_RX1_19 rfl uin_RX1 (by decide) rfl f32 g32 ?_
    refine q_iload_n dX1_childNamed_35 rfl ?_
    obtain ⟨n36, f36, x36, g36, i36, e36, hq⟩ := vab_e hq
    refine q_aaldA (t0 := 6) dX1_childNamed_36 (mv_ty hG (t := 6) rfl) g36 i36 ?_
    rw [e36]
    show mv_rq l G mX1_childNamed (d + 1) 37 [some (.ref u0), some (.int u1), some (.ref u2), some (.int u3), none] [.ref x36] h _
    refine q_iload_n dX1_childNamed_37 rfl ?_
    obtain ⟨n38, f38, x38, g38, i38, e38, hq⟩ := vai_e hq
    refine q_iald (t0 := 1) dX1_childNamed_38 (mv_tI hG) g38 i38 ?_
    rw [← e38]
    show mv_rq l G mX1_childNamed (d + 1) 39 [some (.ref u0), some (.int u1), some (.ref u2), some (.int u3), none] [.int x38] h _
    refine q_istore dX1_childNamed_39 (Nat.le_of_ble_eq_true rfl) rfl ?_
    show mv_rq l G mX1_childNamed (d + 1) 41 [some (.ref u0), some (.int u1), some (.ref u2), some (.int u3), some (.int x38)] [] h _
    refine q_aload_n dX1_childNamed_41 rfl ?_
    obtain ⟨fs42, x42, f42, g42, hq⟩ := vgb_e hq
    refine q_getf (k := 0) (T := TX1) (C0 := RX1) (N := 4) (ci := 3) dX1_childNamed_42 fl_RX1_11 rfl uin_RX1 (by decide) rfl f42 g42 ?_
    refine q_iload dX1_childNamed_45 rfl ?_
    obtain ⟨n47, f47, x47, g47, i47, e47, hq⟩ := vab_e hq
    refine q_aald (t0 := 4) dX1_childNamed_47 (mv_ty hG (t := 4) rfl) g47 i47 ?_
    rw [e47]
    show mv_rq l G mX1_childNamed (d + 1) 48 [some (.ref u0), some (.int u1), some (.ref u2), some (.int u3), some (.int x38)] [.ref x47] h _
    obtain ⟨fs48, x48, f48, g48, hq⟩ := vgb_e hq
    refine q_getf (k := 4) (T := TX11) (C0 := RX11) (N := 10) (ci := 13) dX1_childNamed_48 fl_RX1_40 rfl uin_RX11 (by decide) rfl f48 g48 ?_
    refine q_aload_n dX1_childNamed_51 rfl ?_
    obtain ⟨⟨fs52, f52⟩, hq⟩ := vob_e hq
    refine q_cV (Y := mJ0_equals_9ea2d) (As := [.ref u2]) (st := []) (b := x48) (ci := 0) vc_J0_equals_9ea2d dX1_childNamed_52 ml_RX1_66 rfl f52 rfl (Nat.le_of_ble_eq_true rfl) rfl (Nat.le_of_ble_eq_true rfl) hq (fun v h1 hq1 => ?_) (fun E h1 hq1 => ?_)
    rotate_left
    ·
      rcases hq1 with hq1 | ⟨E1, e1, hq1⟩
      · obtain ⟨_, z, _⟩ := hq1; exact nomatch z
      · obtain rfl := Sum.inr.inj e1; exact q_xout (fun z hz => nomatch hz) hq1
    rcases hq1 with hq1 | ⟨E1, e1, hq1⟩
    rotate_left
    · exact nomatch e1
    obtain ⟨x52, hv, hq⟩ := hq1
    obtain rfl := Sum.inl.inj hv
    clear hv
    obtain ⟨h52, eh52⟩ : ∃ z, z = h1 := ⟨_, rfl⟩
    rw [← eh52] at hq ⊢
    clear eh52
    show mv_rq l G mX1_childNamed (d + 1) 55 [some (.ref u0), some (.int u1), some (.ref u2), some (.int u3), some (.int x38)] [.int x52] h52 _
    refine q_if_eq (tgt := 61) dX1_childNamed_55 (by decide) (fun c55 => ?_) (fun c55 => ?_)
    ·
      have hq := vif_t hq c55
      refine q_iinc dX1_childNamed_61 rfl rfl ?_
      show mv_rq l G mX1_childNamed (d + 1) 64 [some (.ref u0), some (.int u1), some (.ref u2), some (.int (u3 + 1)), some (.int x38)] [] h52 _
      refine q_goto (tgt := 18) dX1_childNamed_64 (by decide) ?_
      exact mv_weak (A := [some (.ref u0), some (.int u1), some (.ref u2), some (.int (u3 + 1)), none]) (by repeat' constructor) hq
    ·
      have hq := vif_f hq c55
      refine q_iload dX1_childNamed_58 rfl ?_
      exact q_iret (ty := .int) dX1_childNamed_60 rfl rfl hq
