theorem dX13_step_0 : decode cX13_step 0 = .ok (.aload_n 0, 1) := by decide +kernel
theorem dX13_step_1 : decode cX13_step 1 = .ok (.getfield 437, 3) := by decide +kernel
theorem dX13_step_4 : decode cX13_step 4 = .ok (.iconst 1, 1) := by decide +kernel
theorem dX13_step_5 : decode cX13_step 5 = .ok (.isub, 1) := by decide +kernel
theorem dX13_step_6 : decode cX13_step 6 = .ok (.istore_n 1, 1) := by decide +kernel
theorem dX13_step_7 : decode cX13_step 7 = .ok (.aload_n 0, 1) := by decide +kernel
theorem dX13_step_8 : decode cX13_step 8 = .ok (.getfield 130, 3) := by decide +kernel
theorem dX13_step_11 : decode cX13_step 11 = .ok (.iload_n 1, 1) := by decide +kernel
theorem dX13_step_12 : decode cX13_step 12 = .ok (.iaload, 1) := by decide +kernel
theorem dX13_step_13 : decode cX13_step 13 = .ok (.tableswitch 97 0 3 #[31, 73, 81, 89], 31) := by decide +kernel
theorem dX13_step_44 : decode cX13_step 44 = .ok (.aload_n 0, 1) := by decide +kernel
theorem dX13_step_45 : decode cX13_step 45 = .ok (.getfield 136, 3) := by decide +kernel
theorem dX13_step_48 : decode cX13_step 48 = .ok (.iload_n 1, 1) := by decide +kernel
theorem dX13_step_49 : decode cX13_step 49 = .ok (.iaload, 1) := by decide +kernel
theorem dX13_step_50 : decode cX13_step 50 = .ok (.iconst (-1), 1) := by decide +kernel
theorem dX13_step_51 : decode cX13_step 51 = .ok (.if_icmp .ne 11, 3) := by decide +kernel
theorem dX13_step_54 : decode cX13_step 54 = .ok (.aload_n 0, 1) := by decide +kernel
theorem dX13_step_55 : decode cX13_step 55 = .ok (.iload_n 1, 1) := by decide +kernel
theorem dX13_step_56 : decode cX13_step 56 = .ok (.invokevirtual 494, 3) := by decide +kernel
theorem dX13_step_59 : decode cX13_step 59 = .ok (.goto 56, 3) := by decide +kernel
theorem dX13_step_62 : decode cX13_step 62 = .ok (.aload_n 0, 1) := by decide +kernel
theorem dX13_step_63 : decode cX13_step 63 = .ok (.getfield 163, 3) := by decide +kernel
theorem dX13_step_66 : decode cX13_step 66 = .ok (.iload_n 1, 1) := by decide +kernel
theorem dX13_step_67 : decode cX13_step 67 = .ok (.iconst 0, 1) := by decide +kernel
theorem dX13_step_68 : decode cX13_step 68 = .ok (.iastore, 1) := by decide +kernel
theorem dX13_step_69 : decode cX13_step 69 = .ok (.aload_n 0, 1) := by decide +kernel
theorem dX13_step_70 : decode cX13_step 70 = .ok (.getfield 139, 3) := by decide +kernel
theorem dX13_step_73 : decode cX13_step 73 = .ok (.iload_n 1, 1) := by decide +kernel
theorem dX13_step_74 : decode cX13_step 74 = .ok (.iconst (-1), 1) := by decide +kernel
theorem dX13_step_75 : decode cX13_step 75 = .ok (.iastore, 1) := by decide +kernel
theorem dX13_step_76 : decode cX13_step 76 = .ok (.aload_n 0, 1) := by decide +kernel
theorem dX13_step_77 : decode cX13_step 77 = .ok (.getfield 130, 3) := by decide +kernel
theorem dX13_step_80 : decode cX13_step 80 = .ok (.iload_n 1, 1) := by decide +kernel
theorem dX13_step_81 : decode cX13_step 81 = .ok (.iconst 1, 1) := by decide +kernel
theorem dX13_step_82 : decode cX13_step 82 = .ok (.iastore, 1) := by decide +kernel
theorem dX13_step_83 : decode cX13_step 83 = .ok (.goto 32, 3) := by decide +kernel
theorem dX13_step_86 : decode cX13_step 86 = .ok (.aload_n 0, 1) := by decide +kernel
theorem dX13_step_87 : decode cX13_step 87 = .ok (.iload_n 1, 1) := by decide +kernel
theorem dX13_step_88 : decode cX13_step 88 = .ok (.invokevirtual 497, 3) := by decide +kernel
theorem dX13_step_91 : decode cX13_step 91 = .ok (.goto 24, 3) := by decide +kernel
theorem dX13_step_94 : decode cX13_step 94 = .ok (.aload_n 0, 1) := by decide +kernel
theorem dX13_step_95 : decode cX13_step 95 = .ok (.iload_n 1, 1) := by decide +kernel
theorem dX13_step_96 : decode cX13_step 96 = .ok (.invokevirtual 500, 3) := by decide +kernel
theorem dX13_step_99 : decode cX13_step 99 = .ok (.goto 16, 3) := by decide +kernel
theorem dX13_step_102 : decode cX13_step 102 = .ok (.aload_n 0, 1) := by decide +kernel
theorem dX13_step_103 : decode cX13_step 103 = .ok (.iload_n 1, 1) := by decide +kernel
theorem dX13_step_104 : decode cX13_step 104 = .ok (.invokevirtual 503, 3) := by decide +kernel
theorem dX13_step_107 : decode cX13_step 107 = .ok (.goto 8, 3) := by decide +kernel
theorem dX13_step_110 : decode cX13_step 110 = .ok (.aload_n 0, 1) := by decide +kernel
theorem dX13_step_111 : decode cX13_step 111 = .ok (.iload_n 1, 1) := by decide +kernel
theorem dX13_step_112 : decode cX13_step 112 = .ok (.invokevirtual 506, 3) := by decide +kernel
theorem dX13_step_115 : decode cX13_step 115 = .ok (.return_, 1) := by decide +kernel
theorem dX13_find_0 : decode cX13_find 0 = .ok (.aload_n 0, 1) := by decide +kernel
theorem dX13_find_1 : decode cX13_find 1 = .ok (.aload_n 0, 1) := by decide +kernel
theorem dX13_find_2 : decode cX13_find 2 = .ok (.getfield 300, 3) := by decide +kernel
theorem dX13_find_5 : decode cX13_find 5 = .ok (.ifCond .eq 10, 3) := by decide +kernel
theorem dX13_find_8 : decode cX13_find 8 = .ok (.aload_n 0, 1) := by decide +kernel
theorem dX13_find_9 : decode cX13_find 9 = .ok (.getfield 412, 3) := by decide +kernel
theorem dX13_find_12 : decode cX13_find 12 = .ok (.ifCond .ne 7, 3) := by decide +kernel
theorem dX13_find_15 : decode cX13_find 15 = .ok (.iconst 1, 1) := by decide +kernel
theorem dX13_find_16 : decode cX13_find 16 = .ok (.goto 4, 3) := by decide +kernel
theorem dX13_find_19 : decode cX13_find 19 = .ok (.iconst 0, 1) := by decide +kernel
theorem dX13_find_20 : decode cX13_find 20 = .ok (.putfield 193, 3) := by decide +kernel
theorem dX13_find_23 : decode cX13_find 23 = .ok (.aload_n 0, 1) := by decide +kernel
theorem dX13_find_24 : decode cX13_find 24 = .ok (.getfield 193, 3) := by decide +kernel
theorem dX13_find_27 : decode cX13_find 27 = .ok (.ifCond .le 5, 3) := by decide +kernel
theorem dX13_find_30 : decode cX13_find 30 = .ok (.iconst 0, 1) := by decide +kernel
theorem dX13_find_31 : decode cX13_find 31 = .ok (.ireturn, 1) := by decide +kernel
theorem dX13_find_32 : decode cX13_find 32 = .ok (.aload_n 0, 1) := by decide +kernel
theorem dX13_find_33 : decode cX13_find 33 = .ok (.aload_n 0, 1) := by decide +kernel
theorem dX13_find_34 : decode cX13_find 34 = .ok (.getfield 51, 3) := by decide +kernel
theorem dX13_find_37 : decode cX13_find 37 = .ok (.aload_n 0, 1) := by decide +kernel
theorem dX13_find_38 : decode cX13_find 38 = .ok (.getfield 409, 3) := by decide +kernel
theorem dX13_find_41 : decode cX13_find 41 = .ok (.invokevirtual 290, 3) := by decide +kernel
theorem dX13_find_44 : decode cX13_find 44 = .ok (.aload_n 0, 1) := by decide +kernel
theorem dX13_find_45 : decode cX13_find 45 = .ok (.invokevirtual 406, 3) := by decide +kernel
theorem dX13_find_48 : decode cX13_find 48 = .ok (.istore_n 1, 1) := by decide +kernel
theorem dX13_find_49 : decode cX13_find 49 = .ok (.aload_n 0, 1) := by decide +kernel
theorem dX13_find_50 : decode cX13_find 50 = .ok (.iconst 0, 1) := by decide +kernel
theorem dX13_find_51 : decode cX13_find 51 = .ok (.putfield 437, 3) := by decide +kernel
theorem dX13_find_54 : decode cX13_find 54 = .ok (.aload_n 0, 1) := by decide +kernel
theorem dX13_find_55 : decode cX13_find 55 = .ok (.iconst 0, 1) := by decide +kernel
theorem dX13_find_56 : decode cX13_find 56 = .ok (.putfield 440, 3) := by decide +kernel
theorem dX13_find_59 : decode cX13_find 59 = .ok (.aload_n 0, 1) := by decide +kernel
theorem dX13_find_60 : decode cX13_find 60 = .ok (.iconst 0, 1) := by decide +kernel
theorem dX13_find_61 : decode cX13_find 61 = .ok (.putfield 449, 3) := by decide +kernel
theorem dX13_find_64 : decode cX13_find 64 = .ok (.aload_n 0, 1) := by decide +kernel
theorem dX13_find_65 : decode cX13_find 65 = .ok (.iconst 0, 1) := by decide +kernel
theorem dX13_find_66 : decode cX13_find 66 = .ok (.putfield 419, 3) := by decide +kernel
theorem dX13_find_69 : decode cX13_find 69 = .ok (.aload_n 0, 1) := by decide +kernel
theorem dX13_find_70 : decode cX13_find 70 = .ok (.iconst 0, 1) := by decide +kernel
theorem dX13_find_71 : decode cX13_find 71 = .ok (.putfield 304, 3) := by decide +kernel
theorem dX13_find_74 : decode cX13_find 74 = .ok (.aload_n 0, 1) := by decide +kernel
theorem dX13_find_75 : decode cX13_find 75 = .ok (.iconst 0, 1) := by decide +kernel
theorem dX13_find_76 : decode cX13_find 76 = .ok (.iconst 0, 1) := by decide +kernel
theorem dX13_find_77 : decode cX13_find 77 = .ok (.iconst 0, 1) := by decide +kernel
theorem dX13_find_78 : decode cX13_find 78 = .ok (.invokevirtual 459, 3) := by decide +kernel
theorem dX13_find_81 : decode cX13_find 81 = .ok (.aload_n 0, 1) := by decide +kernel
theorem dX13_find_82 : decode cX13_find 82 = .ok (.getfield 437, 3) := by decide +kernel
theorem dX13_find_85 : decode cX13_find 85 = .ok (.ifCond .le 17, 3) := by decide +kernel
theorem dX13_find_88 : decode cX13_find 88 = .ok (.aload_n 0, 1) := by decide +kernel
theorem dX13_find_89 : decode cX13_find 89 = .ok (.getfield 419, 3) := by decide +kernel
theorem dX13_find_92 : decode cX13_find 92 = .ok (.ifCond .ne 10, 3) := by decide +kernel
theorem dX13_find_95 : decode cX13_find 95 = .ok (.aload_n 0, 1) := by decide +kernel
theorem dX13_find_96 : decode cX13_find 96 = .ok (.invokevirtual 509, 3) := by decide +kernel
theorem dX13_find_99 : decode cX13_find 99 = .ok (.goto (-18), 3) := by decide +kernel
theorem dX13_find_102 : decode cX13_find 102 = .ok (.aload_n 0, 1) := by decide +kernel
theorem dX13_find_103 : decode cX13_find 103 = .ok (.aload_n 0, 1) := by decide +kernel
theorem dX13_find_104 : decode cX13_find 104 = .ok (.getfield 419, 3) := by decide +kernel
theorem dX13_find_107 : decode cX13_find 107 = .ok (.ifCond .eq 7, 3) := by decide +kernel
theorem dX13_find_110 : decode cX13_find 110 = .ok (.iconst 2, 1) := by decide +kernel
theorem dX13_find_111 : decode cX13_find 111 = .ok (.goto 4, 3) := by decide +kernel
theorem dX13_find_114 : decode cX13_find 114 = .ok (.iconst 0, 1) := by decide +kernel
theorem dX13_find_115 : decode cX13_find 115 = .ok (.putfield 193, 3) := by decide +kernel
theorem dX13_find_118 : decode cX13_find 118 = .ok (.aload_n 0, 1) := by decide +kernel
theorem dX13_find_119 : decode cX13_find 119 = .ok (.aload_n 0, 1) := by decide +kernel
theorem dX13_find_120 : decode cX13_find 120 = .ok (.getfield 419, 3) := by decide +kernel
theorem dX13_find_123 : decode cX13_find 123 = .ok (.ifCond .eq 7, 3) := by decide +kernel
theorem dX13_find_126 : decode cX13_find 126 = .ok (.iconst 0, 1) := by decide +kernel
theorem dX13_find_127 : decode cX13_find 127 = .ok (.goto 7, 3) := by decide +kernel
theorem dX13_find_130 : decode cX13_find 130 = .ok (.aload_n 0, 1) := by decide +kernel
theorem dX13_find_131 : decode cX13_find 131 = .ok (.getfield 304, 3) := by decide +kernel
theorem dX13_find_134 : decode cX13_find 134 = .ok (.putfield 304, 3) := by decide +kernel
theorem dX13_find_137 : decode cX13_find 137 = .ok (.aload_n 0, 1) := by decide +kernel
theorem dX13_find_138 : decode cX13_find 138 = .ok (.getfield 304, 3) := by decide +kernel
theorem dX13_find_141 : decode cX13_find 141 = .ok (.ireturn, 1) := by decide +kernel
def mo_step (N : Nat) (S : md_S) : Option md_S :=
  if md_in ((S.1 59) - 1) 8 then
  if (S.2 62 ((S.1 59) - 1).toNatClampNeg) = 0 then
    if md_in ((S.1 59) - 1) 8 then
    if (S.2 64 ((S.1 59) - 1).toNatClampNeg) = (-1) then
      md_c (mo_leave N ((S.1 59) - 1) S) fun S56 =>
      some S56
    else
      if md_in ((S.1 59) - 1) 8 then
      md_l (md_w S 73 ((S.1 59) - 1).toNatClampNeg 0) fun S68 =>
      if md_in ((S.1 59) - 1) 8 then
      md_l (md_w S68 65 ((S.1 59) - 1).toNatClampNeg (-1)) fun S75 =>
      if md_in ((S.1 59) - 1) 8 then
      md_l (md_w S75 62 ((S.1 59) - 1).toNatClampNeg 1) fun S82 =>
      some S82
      else none
      else none
      else none
    else none
  else
  if (S.2 62 ((S.1 59) - 1).toNatClampNeg) = 1 then
    md_c (mo_stepNode N ((S.1 59) - 1) S) fun S88 =>
    some S88
  else
  if (S.2 62 ((S.1 59) - 1).toNatClampNeg) = 2 then
    md_c (mo_stepSelector N ((S.1 59) - 1) S) fun S96 =>
    some S96
  else
  if (S.2 62 ((S.1 59) - 1).toNatClampNeg) = 3 then
    md_c (mo_stepChild N ((S.1 59) - 1) S) fun S104 =>
    some S104
  else
    md_c (mo_stepOp N ((S.1 59) - 1) S) fun S112 =>
    some S112
  else none
theorem ro_step {l : Launch} {G : mv_G} {B : mv_H} {m N d : Nat} (hG : mv_ok G) (hm : G.2.2.1 ≤ m) {S : md_S} {q : md_S} (hq : mo_step N S = some q) : mv_rq l G mX13_step (d + 7) 0 (mv_in [.ref m] 2) [] (md_H G B m S) (md_V G B m q) := by
  unfold mo_step at hq
  show mv_rq l G mX13_step (d + 7) 0 [some (.ref m), none] [] (md_H G B m S) _
  refine q_aload_n dX13_step_0 rfl ?_
  refine r_geti 59 dX13_step_1 fl_RX13_437 (by decide) rfl ki_59 ?_
  refine q_iconst (v := 1) dX13_step_4 (by decide) ?_
  refine q_isub dX13_step_5 ?_
  refine q_istore_n dX13_step_6 (Nat.le_of_ble_eq_true rfl) rfl ?_
  show mv_rq l G mX13_step (d + 7) 7 [some (.ref m), some (.int ((S.1 59) - 1))] [] (md_H G B m S) _
  refine q_aload_n dX13_step_7 rfl ?_
  refine r_geta 62 dX13_step_8 fl_RX13_130 (by decide) rfl kk_62 ?_
  refine q_iload_n dX13_step_11 rfl ?_
  obtain ⟨g12, hq⟩ := md_g hq
  refine r_iald hG 62 dX13_step_12 kk_62 g12 ?_
  by_cases c13_0 : (S.2 62 ((S.1 59) - 1).toNatClampNeg) = 0
  ·
    have hq := md_pos c13_0 hq
    have t13 := md_ti (i := 0) (by decide) c13_0
    refine q_tableIn (off := 31) (tgt := 44) dX13_step_13 (by rw [t13]; decide) (by rw [t13]; decide) (by rw [t13]; rfl) (by decide) ?_
    refine q_aload_n dX13_step_44 rfl ?_
    refine r_geta 64 dX13_step_45 fl_RX13_136 (by decide) rfl kk_64 ?_
    refine q_iload_n dX13_step_48 rfl ?_
    obtain ⟨g49, hq⟩ := md_g hq
    refine r_iald hG 64 dX13_step_49 kk_64 g49 ?_
    refine q_iconst (v := (-1)) dX13_step_50 (by decide) ?_
    refine q_icmp_ne (tgt := 62) dX13_step_51 (by decide) (fun c51 => ?_) (fun c51 => ?_)
    ·
      have hq := md_neg c51 hq
      refine q_aload_n dX13_step_62 rfl ?_
      refine r_geta 73 dX13_step_63 fl_RX13_163 (by decide) rfl kk_73 ?_
      refine q_iload_n dX13_step_66 rfl ?_
      refine q_iconst (v := 0) dX13_step_67 (by decide) ?_
      obtain ⟨g68, hq⟩ := md_g hq
      refine r_iast hG hm 73 dX13_step_68 kk_73 g68 (fun S68 e68 => ?_)
      have hq := md_l_e e68 hq
      clear e68
      show mv_rq l G mX13_step (d + 7) 69 [some (.ref m), some (.int ((S.1 59) - 1))] [] (md_H G B m S68) _
      refine q_aload_n dX13_step_69 rfl ?_
      refine r_geta 65 dX13_step_70 fl_RX13_139 (by decide) rfl kk_65 ?_
      refine q_iload_n dX13_step_73 rfl ?_
      refine q_iconst (v := (-1)) dX13_step_74 (by decide) ?_
      obtain ⟨g75, hq⟩ := md_g hq
      refine r_iast hG hm 65 dX13_step_75 kk_65 g75 (fun S75 e75 => ?_)
      have hq := md_l_e e75 hq
      clear e75
      show mv_rq l G mX13_step (d + 7) 76 [some (.ref m), some (.int ((S.1 59) - 1))] [] (md_H G B m S75) _
      refine q_aload_n dX13_step_76 rfl ?_
      refine r_geta 62 dX13_step_77 fl_RX13_130 (by decide) rfl kk_62 ?_
      refine q_iload_n dX13_step_80 rfl ?_
      refine q_iconst (v := 1) dX13_step_81 (by decide) ?_
      obtain ⟨g82, hq⟩ := md_g hq
      refine r_iast hG hm 62 dX13_step_82 kk_62 g82 (fun S82 e82 => ?_)
      have hq := md_l_e e82 hq
      clear e82
      show mv_rq l G mX13_step (d + 7) 83 [some (.ref m), some (.int ((S.1 59) - 1))] [] (md_H G B m S82) _
      refine q_goto (tgt := 115) dX13_step_83 (by decide) ?_
      obtain rfl := Option.some.inj hq
      exact q_vret dX13_step_115 rfl ⟨rfl, rfl⟩
    ·
      have hq := md_pos c51 hq
      refine q_aload_n dX13_step_54 rfl ?_
      refine q_iload_n dX13_step_55 rfl ?_
      obtain ⟨S56, e56, hq⟩ := md_c_e hq
      refine q_cV (Y := mX13_leave) (As := [.int ((S.1 59) - 1)]) (st := []) (b := m) (ci := 15) vc_X13_leave dX13_step_56 ml_RX13_494 rfl md_obj rfl (Nat.le_of_ble_eq_true rfl) rfl (Nat.le_of_ble_eq_true rfl) (ro_leave (d := d + 4) hG hm e56) (fun v h1 hq1 => ?_) (fun E h1 hq1 => md_nV hq1)
      obtain ⟨hv, rfl⟩ := hq1
      cases hv
      show mv_rq l G mX13_step (d + 7) 59 [some (.ref m), some (.int ((S.1 59) - 1))] [] (md_H G B m S56) _
      refine q_goto (tgt := 115) dX13_step_59 (by decide) ?_
      obtain rfl := Option.some.inj hq
      exact q_vret dX13_step_115 rfl ⟨rfl, rfl⟩
  ·
    have hq := md_neg c13_0 hq
    by_cases c13_1 : (S.2 62 ((S.1 59) - 1).toNatClampNeg) = 1
    ·
      have hq := md_pos c13_1 hq
      have t13 := md_ti (i := 1) (by decide) c13_1
      refine q_tableIn (off := 73) (tgt := 86) dX13_step_13 (by rw [t13]; decide) (by rw [t13]; decide) (by rw [t13]; rfl) (by decide) ?_
      refine q_aload_n dX13_step_86 rfl ?_
      refine q_iload_n dX13_step_87 rfl ?_
      obtain ⟨S88, e88, hq⟩ := md_c_e hq
      refine q_cV (Y := mX13_stepNode) (As := [.int ((S.1 59) - 1)]) (st := []) (b := m) (ci := 15) vc_X13_stepNode dX13_step_88 ml_RX13_497 rfl md_obj rfl (Nat.le_of_ble_eq_true rfl) rfl (Nat.le_of_ble_eq_true rfl) (ro_stepNode (d := d + 6) hG hm e88) (fun v h1 hq1 => ?_) (fun E h1 hq1 => md_nV hq1)
      obtain ⟨hv, rfl⟩ := hq1
      cases hv
      show mv_rq l G mX13_step (d + 7) 91 [some (.ref m), some (.int ((S.1 59) - 1))] [] (md_H G B m S88) _
      refine q_goto (tgt := 115) dX13_step_91 (by decide) ?_
      obtain rfl := Option.some.inj hq
      exact q_vret dX13_step_115 rfl ⟨rfl, rfl⟩
    ·
      have hq := md_neg c13_1 hq
      by_cases c13_2 : (S.2 62 ((S.1 59) - 1).toNatClampNeg) = 2
      ·
        have hq := md_pos c13_2 hq
        have t13 := md_ti (i := 2) (by decide) c13_2
        refine q_tableIn (off := 81) (tgt := 94) dX13_step_13 (by rw [t13]; decide) (by rw [t13]; decide) (by rw [t13]; rfl) (by decide) ?_
        refine q_aload_n dX13_step_94 rfl ?_
        refine q_iload_n dX13_step_95 rfl ?_
        obtain ⟨S96, e96, hq⟩ := md_c_e hq
        refine q_cV (Y := mX13_stepSelector) (As := [.int ((S.1 59) - 1)]) (st := []) (b := m) (ci := 15) vc_X13_stepSelector dX13_step_96 ml_RX13_500 rfl md_obj rfl (Nat.le_of_ble_eq_true rfl) rfl (Nat.le_of_ble_eq_true rfl) (ro_stepSelector (d := d + 1) hG hm e96) (fun v h1 hq1 => ?_) (fun E h1 hq1 => md_nV hq1)
        obtain ⟨hv, rfl⟩ := hq1
        cases hv
        show mv_rq l G mX13_step (d + 7) 99 [some (.ref m), some (.int ((S.1 59) - 1))] [] (md_H G B m S96) _
        refine q_goto (tgt := 115) dX13_step_99 (by decide) ?_
        obtain rfl := Option.some.inj hq
        exact q_vret dX13_step_115 rfl ⟨rfl, rfl⟩
      ·
        have hq := md_neg c13_2 hq
        by_cases c13_3 : (S.2 62 ((S.1 59) - 1).toNatClampNeg) = 3
        ·
          have hq := md_pos c13_3 hq
          have t13 := md_ti (i := 3) (by decide) c13_3
          refine q_tableIn (off := 89) (tgt := 102) dX13_step_13 (by rw [t13]; decide) (by rw [t13]; decide) (by rw [t13]; rfl) (by decide) ?_
          refine q_aload_n dX13_step_102 rfl ?_
          refine q_iload_n dX13_step_103 rfl ?_
          obtain ⟨S104, e104, hq⟩ := md_c_e hq
          refine q_cV (Y := mX13_stepChild) (As := [.int ((S.1 59) - 1)]) (st := []) (b := m) (ci := 15) vc_X13_stepChild dX13_step_104 ml_RX13_503 rfl md_obj rfl (Nat.le_of_ble_eq_true rfl) rfl (Nat.le_of_ble_eq_true rfl) (ro_stepChild (d := d + 5) hG hm e104) (fun v h1 hq1 => ?_) (fun E h1 hq1 => md_nV hq1)
          obtain ⟨hv, rfl⟩ := hq1
          cases hv
          show mv_rq l G mX13_step (d + 7) 107 [some (.ref m), some (.int ((S.1 59) - 1))] [] (md_H G B m S104) _
          refine q_goto (tgt := 115) dX13_step_107 (by decide) ?_
          obtain rfl := Option.some.inj hq
          exact q_vret dX13_step_115 rfl ⟨rfl, rfl⟩
        ·
          have hq := md_neg c13_3 hq
          refine q_tableOut (tgt := 110) dX13_step_13 (by have e0 := md_tn (i := 0) (by decide) c13_0; have e1 := md_tn (i := 1) (by decide) c13_1; have e2 := md_tn (i := 2) (by decide) c13_2; have e3 := md_tn (i := 3) (by decide) c13_3; omega) (by decide) ?_
          refine q_aload_n dX13_step_110 rfl ?_
          refine q_iload_n dX13_step_111 rfl ?_
          obtain ⟨S112, e112, hq⟩ := md_c_e hq
          refine q_cV (Y := mX13_stepOp) (As := [.int ((S.1 59) - 1)]) (st := []) (b := m) (ci := 15) vc_X13_stepOp dX13_step_112 ml_RX13_506 rfl md_obj rfl (Nat.le_of_ble_eq_true rfl) rfl (Nat.le_of_ble_eq_true rfl) (ro_stepOp (d := d) hG hm e112) (fun v h1 hq1 => ?_) (fun E h1 hq1 => md_nV hq1)
          obtain ⟨hv, rfl⟩ := hq1
          cases hv
          show mv_rq l G mX13_step (d + 7) 115 [some (.ref m), some (.int ((S.1 59) - 1))] [] (md_H G B m S112) _
          obtain rfl := Option.some.inj hq
          exact q_vret dX13_step_115 rfl ⟨rfl, rfl⟩
def mo_find_j134 (N : Nat) (y0 : Int32) (S : md_S) : Option (Int32 × md_S) :=
  md_l (md_p S 82 y0) fun S134 =>
  some ((S134.1 82), S134)
theorem ro_find_j134 {l : Launch} {G : mv_G} {B : mv_H} {m N d : Nat} (hG : mv_ok G) (hm : G.2.2.1 ≤ m) {y0 : Int32} {S : md_S} {q : (Int32 × md_S)} (hq : mo_find_j134 N y0 S = some q) : mv_rq l G mX13_find (d + 8) 134 [some (.ref m), none] [.int y0, .ref m] (md_H G B m S) (md_Q G B m q) := by
  unfold mo_find_j134 at hq
  refine r_puti 82 .int dX13_find_134 fl_RX13_304 (by decide) rfl ki_82 rfl kp_82 rfl rfl hm (fun S134 e134 => ?_)
  have hq := md_l_e e134 hq
  clear e134
  show mv_rq l G mX13_find (d + 8) 137 [some (.ref m), none] [] (md_H G B m S134) _
  refine q_aload_n dX13_find_137 rfl ?_
  refine r_geti 82 dX13_find_138 fl_RX13_304 (by decide) rfl ki_82 ?_
  obtain rfl := Option.some.inj hq
  exact q_iret (ty := .int) dX13_find_141 rfl rfl ⟨rfl, rfl⟩
def mo_find_j115 (N : Nat) (y0 : Int32) (S : md_S) : Option (Int32 × md_S) :=
  md_l (md_p S 0 y0) fun S115 =>
  if (S115.1 60) = 0 then
    mo_find_j134 N (S115.1 82) S115
  else
    mo_find_j134 N 0 S115
theorem ro_find_j115 {l : Launch} {G : mv_G} {B : mv_H} {m N d : Nat} (hG : mv_ok G) (hm : G.2.2.1 ≤ m) {y0 : Int32} {S : md_S} {q : (Int32 × md_S)} (hq : mo_find_j115 N y0 S = some q) : mv_rq l G mX13_find (d + 8) 115 [some (.ref m), none] [.int y0, .ref m] (md_H G B m S) (md_Q G B m q) := by
  unfold mo_find_j115 at hq
  refine r_puti 0 .int dX13_find_115 fl_RX13_193 (by decide) rfl ki_0 rfl kp_0 rfl rfl hm (fun S115 e115 => ?_)
  have hq := md_l_e e115 hq
  clear e115
  show mv_rq l G mX13_find (d + 8) 118 [some (.ref m), none] [] (md_H G B m S115) _
  refine q_aload_n dX13_find_118 rfl ?_
  refine q_aload_n dX13_find_119 rfl ?_
  refine r_geti 60 dX13_find_120 fl_RX13_419 (by decide) rfl ki_60 ?_
  refine q_if_eq (tgt := 130) dX13_find_123 (by decide) (fun c123 => ?_) (fun c123 => ?_)
  ·
    have hq := md_pos c123 hq
    refine q_aload_n dX13_find_130 rfl ?_
    refine r_geti 82 dX13_find_131 fl_RX13_304 (by decide) rfl ki_82 ?_
    refine mv_weak (A := [some (.ref m), none]) (by repeat' constructor) ?_
    exact ro_find_j134 hG hm hq
  ·
    have hq := md_neg c123 hq
    refine q_iconst (v := 0) dX13_find_126 (by decide) ?_
    refine q_goto (tgt := 134) dX13_find_127 (by decide) ?_
    refine mv_weak (A := [some (.ref m), none]) (by repeat' constructor) ?_
    exact ro_find_j134 hG hm hq
def mo_find_j102 (N : Nat) (S : md_S) : Option (Int32 × md_S) :=
  if (S.1 60) = 0 then
    mo_find_j115 N 0 S
  else
    mo_find_j115 N 2 S
theorem ro_find_j102 {l : Launch} {G : mv_G} {B : mv_H} {m N d : Nat} (hG : mv_ok G) (hm : G.2.2.1 ≤ m) {S : md_S} {q : (Int32 × md_S)} (hq : mo_find_j102 N  S = some q) : mv_rq l G mX13_find (d + 8) 102 [some (.ref m), none] [] (md_H G B m S) (md_Q G B m q) := by
  unfold mo_find_j102 at hq
  refine q_aload_n dX13_find_102 rfl ?_
  refine q_aload_n dX13_find_103 rfl ?_
  refine r_geti 60 dX13_find_104 fl_RX13_419 (by decide) rfl ki_60 ?_
  refine q_if_eq (tgt := 114) dX13_find_107 (by decide) (fun c107 => ?_) (fun c107 => ?_)
  ·
    have hq := md_pos c107 hq
    refine q_iconst (v := 0) dX13_find_114 (by decide) ?_
    refine mv_weak (A := [some (.ref m), none]) (by repeat' constructor) ?_
    exact ro_find_j115 hG hm hq
  ·
    have hq := md_neg c107 hq
    refine q_iconst (v := 2) dX13_find_110 (by decide) ?_
    refine q_goto (tgt := 115) dX13_find_111 (by decide) ?_
    refine mv_weak (A := [some (.ref m), none]) (by repeat' constructor) ?_
    exact ro_find_j115 hG hm hq
def mo_find_l81 (N : Nat) : Nat → md_S → Option (Int32 × md_S)
  | 0, _ => none
  | n + 1, S =>
    if (S.1 59) ≤ 0 then
      mo_find_j102 N  S
    else
      if (S.1 60) = 0 then
        md_c (mo_step N S) fun S96 =>
        mo_find_l81 N n  S96
      else
        mo_find_j102 N  S
theorem ro_find_l81 {l : Launch} {G : mv_G} {B : mv_H} {m N d : Nat} (hG : mv_ok G) (hm : G.2.2.1 ≤ m) : ∀ n : Nat, ∀ {S : md_S} {q : (Int32 × md_S)}, mo_find_l81 N n  S = some q → mv_rq l G mX13_find (d + 8) 81 [some (.ref m), none] [] (md_H G B m S) (md_Q G B m q)
  | 0, _, _, hq => nomatch hq
  | n + 1, S, q, hq => by
    rw [mo_find_l81] at hq
    refine q_aload_n dX13_find_81 rfl ?_
    refine r_geti 59 dX13_find_82 fl_RX13_437 (by decide) rfl ki_59 ?_
    refine q_if_le (tgt := 102) dX13_find_85 (by decide) (fun c85 => ?_) (fun c85 => ?_)
    ·
      have hq := md_pos c85 hq
      refine mv_weak (A := [some (.ref m), none]) (by repeat' constructor) ?_
      exact ro_find_j102 hG hm hq
    ·
      have hq := md_neg c85 hq
      refine q_aload_n dX13_find_88 rfl ?_
      refine r_geti 60 dX13_find_89 fl_RX13_419 (by decide) rfl ki_60 ?_
      refine q_if_ne (tgt := 102) dX13_find_92 (by decide) (fun c92 => ?_) (fun c92 => ?_)
      ·
        have hq := md_neg c92 hq
        refine mv_weak (A := [some (.ref m), none]) (by repeat' constructor) ?_
        exact ro_find_j102 hG hm hq
      ·
        have hq := md_pos c92 hq
        refine q_aload_n dX13_find_95 rfl ?_
        obtain ⟨S96, e96, hq⟩ := md_c_e hq
        refine q_cV (Y := mX13_step) (As := []) (st := []) (b := m) (ci := 15) vc_X13_step dX13_find_96 ml_RX13_509 rfl md_obj rfl (Nat.le_of_ble_eq_true rfl) rfl (Nat.le_of_ble_eq_true rfl) (ro_step (d := d) hG hm e96) (fun v h1 hq1 => ?_) (fun E h1 hq1 => md_nV hq1)
        obtain ⟨hv, rfl⟩ := hq1
        cases hv
        show mv_rq l G mX13_find (d + 8) 99 [some (.ref m), none] [] (md_H G B m S96) _
        refine q_goto (tgt := 81) dX13_find_99 (by decide) ?_
        refine mv_weak (A := [some (.ref m), none]) (by repeat' constructor) ?_
        exact ro_find_l81 hG hm n hq
def mo_find_j20 (N : Nat) (y0 : Int32) (S : md_S) : Option (Int32 × md_S) :=
  md_l (md_p S 0 y0) fun S20 =>
  if (S20.1 0) ≤ 0 then
    md_c (mo_take N 32 (S20.1 25) S20) fun S41 =>
    md_b (mo_readQuery N S41) fun v45 S45 =>
    md_l (md_p S45 59 0) fun S51 =>
    md_l (md_p S51 76 0) fun S56 =>
    md_l (md_p S56 61 0) fun S61 =>
    md_l (md_p S61 60 0) fun S66 =>
    md_l (md_p S66 82 0) fun S71 =>
    md_c (mo_enter 0 0 0 S71) fun S78 =>
    mo_find_l81 N N  S78
  else
    some (0, S20)
theorem ro_find_j20 {l : Launch} {G : mv_G} {B : mv_H} {m N d : Nat} (hG : mv_ok G) (hm : G.2.2.1 ≤ m) {y0 : Int32} {S : md_S} {q : (Int32 × md_S)} (hq : mo_find_j20 N y0 S = some q) : mv_rq l G mX13_find (d + 8) 20 [some (.ref m), none] [.int y0, .ref m] (md_H G B m S) (md_Q G B m q) := by
  unfold mo_find_j20 at hq
  refine r_puti 0 .int dX13_find_20 fl_RX13_193 (by decide) rfl ki_0 rfl kp_0 rfl rfl hm (fun S20 e20 => ?_)
  have hq := md_l_e e20 hq
  clear e20
  show mv_rq l G mX13_find (d + 8) 23 [some (.ref m), none] [] (md_H G B m S20) _
  refine q_aload_n dX13_find_23 rfl ?_
  refine r_geti 0 dX13_find_24 fl_RX13_193 (by decide) rfl ki_0 ?_
  refine q_if_le (tgt := 32) dX13_find_27 (by decide) (fun c27 => ?_) (fun c27 => ?_)
  ·
    have hq := md_pos c27 hq
    refine q_aload_n dX13_find_32 rfl ?_
    refine q_aload_n dX13_find_33 rfl ?_
    refine r_geta 32 dX13_find_34 fl_RX13_51 (by decide) rfl kk_32 ?_
    refine q_aload_n dX13_find_37 rfl ?_
    refine r_geti 25 dX13_find_38 fl_RX13_409 (by decide) rfl ki_25 ?_
    obtain ⟨S41, e41, hq⟩ := md_c_e hq
    refine q_cV (Y := mX13_take) (As := [.ref (m + md_ad 32), .int (S20.1 25)]) (st := []) (b := m) (ci := 15) vc_X13_take dX13_find_41 ml_RX13_290 rfl md_obj rfl (Nat.le_of_ble_eq_true rfl) rfl (Nat.le_of_ble_eq_true rfl) (ro_take (d := d + 7) hG hm e41) (fun v h1 hq1 => ?_) (fun E h1 hq1 => md_nV hq1)
    obtain ⟨hv, rfl⟩ := hq1
    cases hv
    show mv_rq l G mX13_find (d + 8) 44 [some (.ref m), none] [] (md_H G B m S41) _
    refine q_aload_n dX13_find_44 rfl ?_
    obtain ⟨v45, S45, e45, hq⟩ := md_b_e hq
    refine q_cV (Y := mX13_readQuery) (As := []) (st := []) (b := m) (ci := 15) vc_X13_readQuery dX13_find_45 ml_RX13_406 rfl md_obj rfl (Nat.le_of_ble_eq_true rfl) rfl (Nat.le_of_ble_eq_true rfl) (ro_readQuery (d := d + 1) hG hm e45) (fun v h1 hq1 => ?_) (fun E h1 hq1 => md_nQ hq1)
    obtain ⟨hv, rfl⟩ := hq1
    cases hv
    show mv_rq l G mX13_find (d + 8) 48 [some (.ref m), none] [.int v45] (md_H G B m S45) _
    refine q_istore_n dX13_find_48 (Nat.le_of_ble_eq_true rfl) rfl ?_
    show mv_rq l G mX13_find (d + 8) 49 [some (.ref m), some (.int v45)] [] (md_H G B m S45) _
    refine q_aload_n dX13_find_49 rfl ?_
    refine q_iconst (v := 0) dX13_find_50 (by decide) ?_
    refine r_puti 59 .int dX13_find_51 fl_RX13_437 (by decide) rfl ki_59 rfl kp_59 rfl rfl hm (fun S51 e51 => ?_)
    have hq := md_l_e e51 hq
    clear e51
    show mv_rq l G mX13_find (d + 8) 54 [some (.ref m), some (.int v45)] [] (md_H G B m S51) _
    refine q_aload_n dX13_find_54 rfl ?_
    refine q_iconst (v := 0) dX13_find_55 (by decide) ?_
    refine r_puti 76 .int dX13_find_56 fl_RX13_440 (by decide) rfl ki_76 rfl kp_76 rfl rfl hm (fun S56 e56 => ?_)
    have hq := md_l_e e56 hq
    clear e56
    show mv_rq l G mX13_find (d + 8) 59 [some (.ref m), some (.int v45)] [] (md_H G B m S56) _
    refine q_aload_n dX13_find_59 rfl ?_
    refine q_iconst (v := 0) dX13_find_60 (by decide) ?_
    refine r_puti 61 .int dX13_find_61 fl_RX13_449 (by decide) rfl ki_61 rfl kp_61 rfl rfl hm (fun S61 e61 => ?_)
    have hq := md_l_e e61 hq
    clear e61
    show mv_rq l G mX13_find (d + 8) 64 [some (.ref m), some (.int v45)] [] (md_H G B m S61) _
    refine q_aload_n dX13_find_64 rfl ?_
    refine q_iconst (v := 0) dX13_find_65 (by decide) ?_
    refine r_puti 60 .boolean dX13_find_66 fl_RX13_419 (by decide) rfl ki_60 rfl kp_60 rfl rfl hm (fun S66 e66 => ?_)
    have hq := md_l_e e66 hq
    clear e66
    show mv_rq l G mX13_find (d + 8) 69 [some (.ref m), some (.int v45)] [] (md_H G B m S66) _
    refine q_aload_n dX13_find_69 rfl ?_
    refine q_iconst (v := 0) dX13_find_70 (by decide) ?_
    refine r_puti 82 .int dX13_find_71 fl_RX13_304 (by decide) rfl ki_82 rfl kp_82 rfl rfl hm (fun S71 e71 => ?_)
    have hq := md_l_e e71 hq
    clear e71
    show mv_rq l G mX13_find (d + 8) 74 [some (.ref m), some (.int v45)] [] (md_H G B m S71) _
    refine q_aload_n dX13_find_74 rfl ?_
    refine q_iconst (v := 0) dX13_find_75 (by decide) ?_
    refine q_iconst (v := 0) dX13_find_76 (by decide) ?_
    refine q_iconst (v := 0) dX13_find_77 (by decide) ?_
    obtain ⟨S78, e78, hq⟩ := md_c_e hq
    refine q_cV (Y := mX13_enter) (As := [.int 0, .int 0, .int 0]) (st := []) (b := m) (ci := 15) vc_X13_enter dX13_find_78 ml_RX13_459 rfl md_obj rfl (Nat.le_of_ble_eq_true rfl) rfl (Nat.le_of_ble_eq_true rfl) (ro_enter (d := d + 7) hG hm e78) (fun v h1 hq1 => ?_) (fun E h1 hq1 => md_nV hq1)
    obtain ⟨hv, rfl⟩ := hq1
    cases hv
    show mv_rq l G mX13_find (d + 8) 81 [some (.ref m), some (.int v45)] [] (md_H G B m S78) _
    refine mv_weak (A := [some (.ref m), none]) (by repeat' constructor) ?_
    exact ro_find_l81 hG hm N hq
  ·
    have hq := md_neg c27 hq
    refine q_iconst (v := 0) dX13_find_30 (by decide) ?_
    obtain rfl := Option.some.inj hq
    exact q_iret (ty := .int) dX13_find_31 rfl rfl ⟨rfl, rfl⟩
def mo_find_j15 (N : Nat) (S : md_S) : Option (Int32 × md_S) :=
  mo_find_j20 N 1 S
theorem ro_find_j15 {l : Launch} {G : mv_G} {B : mv_H} {m N d : Nat} (hG : mv_ok G) (hm : G.2.2.1 ≤ m) {S : md_S} {q : (Int32 × md_S)} (hq : mo_find_j15 N  S = some q) : mv_rq l G mX13_find (d + 8) 15 [some (.ref m), none] [.ref m] (md_H G B m S) (md_Q G B m q) := by
  unfold mo_find_j15 at hq
  refine q_iconst (v := 1) dX13_find_15 (by decide) ?_
  refine q_goto (tgt := 20) dX13_find_16 (by decide) ?_
  refine mv_weak (A := [some (.ref m), none]) (by repeat' constructor) ?_
  exact ro_find_j20 hG hm hq
def mo_find (N : Nat) (S : md_S) : Option (Int32 × md_S) :=
  if (S.1 8) = 0 then
    mo_find_j15 N  S
  else
    if (S.1 24) = 0 then
      mo_find_j15 N  S
    else
      mo_find_j20 N 0 S
theorem ro_find {l : Launch} {G : mv_G} {B : mv_H} {m N d : Nat} (hG : mv_ok G) (hm : G.2.2.1 ≤ m) {S : md_S} {q : (Int32 × md_S)} (hq : mo_find N S = some q) : mv_rq l G mX13_find (d + 8) 0 (mv_in [.ref m] 2) [] (md_H G B m S) (md_Q G B m q) := by
  unfold mo_find at hq
  show mv_rq l G mX13_find (d + 8) 0 [some (.ref m), none] [] (md_H G B m S) _
  refine q_aload_n dX13_find_0 rfl ?_
  refine q_aload_n dX13_find_1 rfl ?_
  refine r_geti 8 dX13_find_2 fl_RX13_300 (by decide) rfl ki_8 ?_
  refine q_if_eq (tgt := 15) dX13_find_5 (by decide) (fun c5 => ?_) (fun c5 => ?_)
  ·
    have hq := md_pos c5 hq
    refine mv_weak (A := [some (.ref m), none]) (by repeat' constructor) ?_
    exact ro_find_j15 hG hm hq
  ·
    have hq := md_neg c5 hq
    refine q_aload_n dX13_find_8 rfl ?_
    refine r_geti 24 dX13_find_9 fl_RX13_412 (by decide) rfl ki_24 ?_
    refine q_if_ne (tgt := 19) dX13_find_12 (by decide) (fun c12 => ?_) (fun c12 => ?_)
    ·
      have hq := md_neg c12 hq
      refine q_iconst (v := 0) dX13_find_19 (by decide) ?_
      refine mv_weak (A := [some (.ref m), none]) (by repeat' constructor) ?_
      exact ro_find_j20 hG hm hq
    ·
      have hq := md_pos c12 hq
      refine mv_weak (A := [some (.ref m), none]) (by repeat' constructor) ?_
      exact ro_find_j15 hG hm hq
