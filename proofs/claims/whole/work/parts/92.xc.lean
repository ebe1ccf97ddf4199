/-! ill texts are caught -/
theorem xc_cast : Cond.castable xIA xIA ∈ lw_tbl := mv_at 457 (by decide +kernel)
theorem xc_X2_readInto {l : Launch} {G : mv_G} {d pc r A s a : Nat} {h : mv_H} {Q : mv_O → mv_H → Prop} (hpc : 21 ≤ pc ∧ pc < 36) (hq : vgb h r 4 0 fun c => vgi h c 2 2 fun x => Q (.inl (some (.int x))) h) : mv_xq l G mX2_readInto (d + 1) pc [some (.ref r), some (.ref A), some (.ref s), none] (xIA, a) h Q := by
  refine q_xcatch (pre := []) (suf := []) (x := (21, 36, 39, 38)) (name := xIA) rfl (fun z hz => nomatch hz) hpc (by decide) (mv_at 701 (by decide +kernel)) xc_cast ?_
  refine q_astore_n dX2_readInto_39 (Nat.le_of_ble_eq_true rfl) rfl ?_
  refine q_aload_n dX2_readInto_40 rfl ?_
  obtain ⟨fs1, x1, f1, g1, hq⟩ := vgb_e hq
  refine q_getf (k := 0) (T := TX2) (C0 := RX2) (N := 2) (ci := 4) dX2_readInto_41 fl_RX2_12 rfl uin_RX2 (by decide) rfl f1 g1 ?_
  obtain ⟨fs2, x2, f2, g2, hq⟩ := vgi_e hq
  refine q_getf (k := 2) (T := TX0) (C0 := RX0) (N := 3) (ci := 2) dX2_readInto_44 fl_RX2_40 rfl uin_RX0 (by decide) rfl f2 g2 ?_
  exact q_iret (ty := .int) dX2_readInto_47 rfl rfl hq
theorem xc_X5_readFrom {l : Launch} {G : mv_G} {d pc r a : Nat} {x1 x2 : Option Value} {h : mv_H} {Q : mv_O → mv_H → Prop} (hsk : mv_sok [some (.ref r), x1, x2] 2 = true) (hpc : 8 ≤ pc ∧ pc < 52) (hq : vgb h r 7 0 fun c => vgi h c 2 2 fun x => Q (.inl (some (.int x))) h) : mv_xq l G mX5_readFrom (d + 1) pc [some (.ref r), x1, x2] (xIA, a) h Q := by
  refine q_xcatch (pre := []) (suf := []) (x := (8, 52, 55, 45)) (name := xIA) rfl (fun z hz => nomatch hz) hpc (by decide) (mv_at 857 (by decide +kernel)) xc_cast ?_
  refine q_astore_n dX5_readFrom_55 (Nat.le_of_ble_eq_true rfl) hsk ?_
  refine q_aload_n dX5_readFrom_56 rfl ?_
  obtain ⟨fs1, y1, f1, g1, hq⟩ := vgb_e hq
  refine q_getf (k := 0) (T := TX5) (C0 := RX5) (N := 2) (ci := 7) dX5_readFrom_57 fl_RX5_12 rfl uin_RX5 (by decide) rfl f1 g1 ?_
  obtain ⟨fs2, y2, f2, g2, hq⟩ := vgi_e hq
  refine q_getf (k := 2) (T := TX0) (C0 := RX0) (N := 3) (ci := 2) dX5_readFrom_60 fl_RX5_47 rfl uin_RX0 (by decide) rfl f2 g2 ?_
  exact q_iret (ty := .int) dX5_readFrom_63 rfl rfl hq
