theorem dX1_init_0 : decode cX1_init 0 = .ok (.aload_n 0, 1) := by decide +kernel
theorem dX1_init_1 : decode cX1_init 1 = .ok (.invokespecial 3, 3) := by decide +kernel
theorem dX1_init_4 : decode cX1_init 4 = .ok (.aload_n 0, 1) := by decide +kernel
theorem dX1_init_5 : decode cX1_init 5 = .ok (.bipush 40, 2) := by decide +kernel
theorem dX1_init_7 : decode cX1_init 7 = .ok (.anewarray 9, 3) := by decide +kernel
theorem dX1_init_10 : decode cX1_init 10 = .ok (.putfield 11, 3) := by decide +kernel
theorem dX1_init_13 : decode cX1_init 13 = .ok (.aload_n 0, 1) := by decide +kernel
theorem dX1_init_14 : decode cX1_init 14 = .ok (.bipush 40, 2) := by decide +kernel
theorem dX1_init_16 : decode cX1_init 16 = .ok (.bipush 40, 2) := by decide +kernel
theorem dX1_init_18 : decode cX1_init 18 = .ok (.multianewarray 17 2, 4) := by decide +kernel
theorem dX1_init_22 : decode cX1_init 22 = .ok (.putfield 19, 3) := by decide +kernel
theorem dX1_init_25 : decode cX1_init 25 = .ok (.aload_n 0, 1) := by decide +kernel
theorem dX1_init_26 : decode cX1_init 26 = .ok (.ldc 22, 2) := by decide +kernel
theorem dX1_init_28 : decode cX1_init 28 = .ok (.putfield 24, 3) := by decide +kernel
theorem dX1_init_31 : decode cX1_init 31 = .ok (.aload_n 0, 1) := by decide +kernel
theorem dX1_init_32 : decode cX1_init 32 = .ok (.iconst 0, 1) := by decide +kernel
theorem dX1_init_33 : decode cX1_init 33 = .ok (.putfield 28, 3) := by decide +kernel
theorem dX1_init_36 : decode cX1_init 36 = .ok (.iconst 0, 1) := by decide +kernel
theorem dX1_init_37 : decode cX1_init 37 = .ok (.istore_n 1, 1) := by decide +kernel
theorem dX1_init_38 : decode cX1_init 38 = .ok (.iload_n 1, 1) := by decide +kernel
theorem dX1_init_39 : decode cX1_init 39 = .ok (.bipush 40, 2) := by decide +kernel
theorem dX1_init_41 : decode cX1_init 41 = .ok (.if_icmp .ge 32, 3) := by decide +kernel
theorem dX1_init_44 : decode cX1_init 44 = .ok (.aload_n 0, 1) := by decide +kernel
theorem dX1_init_45 : decode cX1_init 45 = .ok (.getfield 11, 3) := by decide +kernel
theorem dX1_init_48 : decode cX1_init 48 = .ok (.iload_n 1, 1) := by decide +kernel
theorem dX1_init_49 : decode cX1_init 49 = .ok (.new 9, 3) := by decide +kernel
theorem dX1_init_52 : decode cX1_init 52 = .ok (.dup, 1) := by decide +kernel
theorem dX1_init_53 : decode cX1_init 53 = .ok (.invokespecial 32, 3) := by decide +kernel
theorem dX1_init_56 : decode cX1_init 56 = .ok (.aastore, 1) := by decide +kernel
theorem dX1_init_57 : decode cX1_init 57 = .ok (.aload_n 0, 1) := by decide +kernel
theorem dX1_init_58 : decode cX1_init 58 = .ok (.getfield 11, 3) := by decide +kernel
theorem dX1_init_61 : decode cX1_init 61 = .ok (.iload_n 1, 1) := by decide +kernel
theorem dX1_init_62 : decode cX1_init 62 = .ok (.aaload, 1) := by decide +kernel
theorem dX1_init_63 : decode cX1_init 63 = .ok (.iload_n 1, 1) := by decide +kernel
theorem dX1_init_64 : decode cX1_init 64 = .ok (.putfield 33, 3) := by decide +kernel
theorem dX1_init_67 : decode cX1_init 67 = .ok (.iinc 1 1, 3) := by decide +kernel
theorem dX1_init_70 : decode cX1_init 70 = .ok (.goto (-32), 3) := by decide +kernel
theorem dX1_init_73 : decode cX1_init 73 = .ok (.return_, 1) := by decide +kernel
def w_X1_init (l : Launch) (G : mv_G) (d : Nat) (u0 : Nat) (h : mv_H) (Q : mv_O → mv_H → Prop) : Prop :=
  vnw h 40 (.inl (mv_t G 4, 40, .inr (.inr (.inr (.inr (fun _ => none)))))) fun a7 h7 =>
  vpu G h7 u0 3 0 (.ref a7) fun h10 =>
  vmu G h10 fun a18 h18 =>
  vpu G h18 u0 3 1 (.ref a18) fun h22 =>
  vst G RX1 22 "" fun a26 =>
  vpu G h22 u0 3 2 (.ref a26) fun h28 =>
  vpu G h28 u0 3 3 (.int 0) fun h33 =>
  mv_rq l G mX1_init (d + 1) 38 [some (.ref u0), some (.int 0)] [] h33 Q
theorem v_X1_init {l : Launch} {G : mv_G} {d : Nat} {u0 : Nat} {h : mv_H} {Q : mv_O → mv_H → Prop} (hG : mv_ok G) (hq : w_X1_init l G d u0 h Q) : mv_rq l G mX1_init (d + 1) 0 (mv_in [.ref u0] 2) [] h Q := by
  unfold w_X1_init at hq
  show mv_rq l G mX1_init (d + 1) 0 [some (.ref u0), none] [] h _
  refine q_aload_n dX1_init_0 rfl ?_
  refine q_objI dX1_init_1 ml_RX1_3 obj_in obj_co rfl (Nat.le_of_ble_eq_true rfl) ?_
  refine q_aload_n dX1_init_4 rfl ?_
  refine q_bipush (v := 40) dX1_init_5 (by decide) ?_
  obtain ⟨a7, h7, ea7, eh7, hq⟩ := vnw_e hq
  refine q_anew (t0 := 4) (N := 40) dX1_init_7 cl_RX1_9 aov_Value mv_mov_ao (mv_ty hG (t := 4) rfl) (by decide) (by decide) (by decide) ?_
  rw [← eh7, ← ea7]
  show mv_rq l G mX1_init (d + 1) 10 [some (.ref u0), none] [.ref a7, .ref u0] h7 _
  obtain ⟨fs10, h10, f10, b10, l10, e10, hq⟩ := vpu_e hq
  refine q_putF (k := 0) (T := TX1) (C0 := RX1) (N := 4) (ci := 3) (ty := (.array (.object "TreePaths$Value"))) tyX1 tyX1_ok nmX1 dX1_init_10 fl_RX1_11 rfl uin_RX1 (by decide) rfl rfl rfl rfl (by decide +kernel) rfl rfl b10 f10 l10 ?_
  rw [← e10]
  show mv_rq l G mX1_init (d + 1) 13 [some (.ref u0), none] [] h10 _
  refine q_aload_n dX1_init_13 rfl ?_
  refine q_bipush (v := 40) dX1_init_14 (by decide) ?_
  refine q_bipush (v := 40) dX1_init_16 (by decide) ?_
  obtain ⟨a18, h18, ew18, ea18, eh18, hq⟩ := vmu_e hq
  refine q_multi hG ew18 dX1_init_18 cl_RX1_17 ?_
  rw [← eh18, ← ea18]
  show mv_rq l G mX1_init (d + 1) 22 [some (.ref u0), none] [.ref a18, .ref u0] h18 _
  obtain ⟨fs22, h22, f22, b22, l22, e22, hq⟩ := vpu_e hq
  refine q_putF (k := 1) (T := TX1) (C0 := RX1) (N := 4) (ci := 3) (ty := (.array (.array .int))) tyX1 tyX1_ok nmX1 dX1_init_22 fl_RX1_19 rfl uin_RX1 (by decide) rfl rfl rfl rfl (by decide +kernel) rfl rfl b22 f22 l22 ?_
  rw [← e22]
  show mv_rq l G mX1_init (d + 1) 25 [some (.ref u0), none] [] h22 _
  refine q_aload_n dX1_init_25 rfl ?_
  obtain ⟨a26, ea26, hq⟩ := vst_e hq
  refine q_ldcS dX1_init_26 ea26 ?_
  obtain ⟨fs28, h28, f28, b28, l28, e28, hq⟩ := vpu_e hq
  refine q_putf (k := 2) (T := TX1) (C0 := RX1) (N := 4) (ci := 3) (ty := (.object "java/lang/String")) tyX1 tyX1_ok nmX1 dX1_init_28 fl_RX1_24 rfl uin_RX1 (by decide) rfl rfl (by decide +kernel) rfl rfl b28 f28 l28 ?_
  rw [← e28]
  show mv_rq l G mX1_init (d + 1) 31 [some (.ref u0), none] [] h28 _
  refine q_aload_n dX1_init_31 rfl ?_
  refine q_iconst (v := 0) dX1_init_32 (by decide) ?_
  obtain ⟨fs33, h33, f33, b33, l33, e33, hq⟩ := vpu_e hq
  refine q_putf (k := 3) (T := TX1) (C0 := RX1) (N := 4) (ci := 3) (ty := .int) tyX1 tyX1_ok nmX1 dX1_init_33 fl_RX1_28 rfl uin_RX1 (by decide) rfl rfl (by decide +kernel) rfl rfl b33 f33 l33 ?_
  rw [← e33]
  show mv_rq l G mX1_init (d + 1) 36 [some (.ref u0), none] [] h33 _
  refine q_iconst (v := 0) dX1_init_36 (by decide) ?_
  refine q_istore_n dX1_init_37 (Nat.le_of_ble_eq_true rfl) rfl ?_
  show mv_rq l G mX1_init (d + 1) 38 [some (.ref u0), some (.int 0)] [] h33 _
  exact mv_weak (A := [some (.ref u0), some (.int 0)]) (by repeat' constructor) hq
def w_X1_init_38 (l : Launch) (G : mv_G) (d : Nat) (u0 : Nat) (u1 : Int32) (h : mv_H) (Q : mv_O → mv_H → Prop) : Prop :=
  vif (40 ≤ u1) (
    Q (.inl none) h) (
    vgb h u0 3 0 fun x45 =>
    vnw h 10 (.inr (13, [.int 0, .int 0, .null, .int 0, .null, .int 0, .int 0, .int 0, .int 0, .int 0])) fun a49 h49 =>
    mv_rq l G mX11_init d 0 (mv_in [.ref a49] 1) [] h49 (vU (fun E h1 => Q (.inr E) h1) (fun h53 =>
    vsa G h53 x45 4 13 u1 a49 fun h56 =>
    vgb h56 u0 3 0 fun x58 =>
    vab G h56 x58 4 u1 fun x62 =>
    vpu G h56 x62 13 3 (.int u1) fun h64 =>
    mv_rq l G mX1_init (d + 1) 38 [some (.ref u0), some (.int (u1 + 1))] [] h64 Q)))
theorem v_X1_init_38 {l : Launch} {G : mv_G} {d : Nat} {u0 : Nat} {u1 : Int32} {h : mv_H} {Q : mv_O → mv_H → Prop} (hG : mv_ok G) (hq : w_X1_init_38 l G d u0 u1 h Q) : mv_rq l G mX1_init (d + 1) 38 [some (.ref u0), some (.int u1)] [] h Q := by
  unfold w_X1_init_38 at hq
  refine q_iload_n dX1_init_38 rfl ?_
  refine q_bipush (v := 40) dX1_init_39 (by decide) ?_
  refine q_icmp_ge (tgt := 73) dX1_init_41 (by decide) (fun c41 => ?_) (fun c41 => ?_)
  ·
    have hq := vif_t hq c41
    exact q_vret dX1_init_73 rfl hq
  ·
    have hq := vif_f hq c41
    refine q_aload_n dX1_init_44 rfl ?_
    obtain ⟨fs45, x45, f45, g45, hq⟩ := vgb_e hq
    refine q_getf (k := 0) (T := TX1) (C0 := RX1) (N := 4) (ci := 3) dX1_init_45 fl_RX1_11 rfl uin_RX1 (by decide) rfl f45 g45 ?_
    refine q_iload_n dX1_init_48 rfl ?_
    obtain ⟨a49, h49, ea49, eh49, hq⟩ := vnw_e hq
    refine q_new (fs := [.int 0, .int 0, .null, .int 0, .null, .int 0, .int 0, .int 0, .int 0, .int 0]) (ci := 13) (T := TX11) (N := 10) tyX11 tyX11_ok dX1_init_49 cl_RX1_9 inst_RX11 init_RX11 uin_RX11 rfl (by decide) ?_
    rw [← eh49, ← ea49]
    show mv_rq l G mX1_init (d + 1) 52 [some (.ref u0), some (.int u1)] [.ref a49, .int u1, .ref x45] h49 _
    refine q_dup dX1_init_52 rfl ?_
    refine q_cIN (Y := mX11_init) (As := []) (st := [.ref a49, .int u1, .ref x45]) (b := a49) ic_X11_init dX1_init_53 mn_RX1_32 rfl (Nat.le_of_ble_eq_true rfl) rfl (Nat.le_of_ble_eq_true rfl) hq (fun v h1 hq1 => ?_) (fun E h1 hq1 => ?_)
    rotate_left
    ·
      rcases hq1 with hq1 | ⟨E1, e1, hq1⟩
      · exact nomatch hq1.1
      · obtain rfl := Sum.inr.inj e1; exact q_xout (fun z hz => nomatch hz) hq1
    rcases hq1 with hq1 | ⟨E1, e1, hq1⟩
    rotate_left
    · exact nomatch e1
    obtain ⟨hv, hq⟩ := hq1
    obtain rfl := Sum.inl.inj hv
    clear hv
    obtain ⟨h53, eh53⟩ : ∃ z, z = h1 := ⟨_, rfl⟩
    rw [← eh53] at hq ⊢
    clear eh53
    show mv_rq l G mX1_init (d + 1) 56 [some (.ref u0), some (.int u1)] [.ref a49, .int u1, .ref x45] h53 _
    obtain ⟨n56, f56, h56, g56, ⟨vs56, k56⟩, b56, i56, e56, hq⟩ := vsa_e hq
    refine q_aast (t0 := 4) (ci := 13) dX1_init_56 (mv_ty hG (t := 4) rfl) b56 g56 k56 rfl i56 ?_
    rw [← e56]
    show mv_rq l G mX1_init (d + 1) 57 [some (.ref u0), some (.int u1)] [] h56 _
    refine q_aload_n dX1_init_57 rfl ?_
    obtain ⟨fs58, x58, f58, g58, hq⟩ := vgb_e hq
    refine q_getf (k := 0) (T := TX1) (C0 := RX1) (N := 4) (ci := 3) dX1_init_58 fl_RX1_11 rfl uin_RX1 (by decide) rfl f58 g58 ?_
    refine q_iload_n dX1_init_61 rfl ?_
    obtain ⟨n62, f62, x62, g62, i62, e62, hq⟩ := vab_e hq
    refine q_aald (t0 := 4) dX1_init_62 (mv_ty hG (t := 4) rfl) g62 i62 ?_
    rw [e62]
    show mv_rq l G mX1_init (d + 1) 63 [some (.ref u0), some (.int u1)] [.ref x62] h56 _
    refine q_iload_n dX1_init_63 rfl ?_
    obtain ⟨fs64, h64, f64, b64, l64, e64, hq⟩ := vpu_e hq
    refine q_putf (k := 3) (T := TX11) (C0 := RX11) (N := 10) (ci := 13) (ty := .int) tyX11 tyX11_ok nmX11 dX1_init_64 fl_RX1_33 rfl uin_RX11 (by decide) rfl rfl (by decide +kernel) rfl rfl b64 f64 l64 ?_
    rw [← e64]
    show mv_rq l G mX1_init (d + 1) 67 [some (.ref u0), some (.int u1)] [] h64 _
    refine q_iinc dX1_init_67 rfl rfl ?_
    show mv_rq l G mX1_init (d + 1) 70 [some (.ref u0), some (.int (u1 + 1))] [] h64 _
    refine q_goto (tgt := 38) dX1_init_70 (by decide) ?_
    exact mv_weak (A := [some (.ref u0), some (.int (u1 + 1))]) (by repeat' constructor) hq
