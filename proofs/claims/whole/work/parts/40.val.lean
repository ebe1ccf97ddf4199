theorem dX11_become_0 : decode cX11_become 0 = .ok (.aload_n 0, 1) := by decide +kernel
theorem dX11_become_1 : decode cX11_become 1 = .ok (.iload_n 1, 1) := by decide +kernel
theorem dX11_become_2 : decode cX11_become 2 = .ok (.putfield 9, 3) := by decide +kernel
theorem dX11_become_5 : decode cX11_become 5 = .ok (.aload_n 0, 1) := by decide +kernel
theorem dX11_become_6 : decode cX11_become 6 = .ok (.iload_n 2, 1) := by decide +kernel
theorem dX11_become_7 : decode cX11_become 7 = .ok (.putfield 15, 3) := by decide +kernel
theorem dX11_become_10 : decode cX11_become 10 = .ok (.aload_n 0, 1) := by decide +kernel
theorem dX11_become_11 : decode cX11_become 11 = .ok (.aload_n 3, 1) := by decide +kernel
theorem dX11_become_12 : decode cX11_become 12 = .ok (.putfield 20, 3) := by decide +kernel
theorem dX11_become_15 : decode cX11_become 15 = .ok (.return_, 1) := by decide +kernel
theorem dX11_childCount_0 : decode cX11_childCount 0 = .ok (.aload_n 0, 1) := by decide +kernel
theorem dX11_childCount_1 : decode cX11_childCount 1 = .ok (.getfield 9, 3) := by decide +kernel
theorem dX11_childCount_4 : decode cX11_childCount 4 = .ok (.iconst 5, 1) := by decide +kernel
theorem dX11_childCount_5 : decode cX11_childCount 5 = .ok (.if_icmp .eq 12, 3) := by decide +kernel
theorem dX11_childCount_8 : decode cX11_childCount 8 = .ok (.aload_n 0, 1) := by decide +kernel
theorem dX11_childCount_9 : decode cX11_childCount 9 = .ok (.getfield 9, 3) := by decide +kernel
theorem dX11_childCount_12 : decode cX11_childCount 12 = .ok (.bipush 6, 2) := by decide +kernel
theorem dX11_childCount_14 : decode cX11_childCount 14 = .ok (.if_icmp .ne 10, 3) := by decide +kernel
theorem dX11_childCount_17 : decode cX11_childCount 17 = .ok (.aload_n 0, 1) := by decide +kernel
theorem dX11_childCount_18 : decode cX11_childCount 18 = .ok (.getfield 15, 3) := by decide +kernel
theorem dX11_childCount_21 : decode cX11_childCount 21 = .ok (.goto 4, 3) := by decide +kernel
theorem dX11_childCount_24 : decode cX11_childCount 24 = .ok (.iconst 0, 1) := by decide +kernel
theorem dX11_childCount_25 : decode cX11_childCount 25 = .ok (.ireturn, 1) := by decide +kernel
theorem dX11_init_0 : decode cX11_init 0 = .ok (.aload_n 0, 1) := by decide +kernel
theorem dX11_init_1 : decode cX11_init 1 = .ok (.invokespecial 3, 3) := by decide +kernel
theorem dX11_init_4 : decode cX11_init 4 = .ok (.aload_n 0, 1) := by decide +kernel
theorem dX11_init_5 : decode cX11_init 5 = .ok (.iconst 0, 1) := by decide +kernel
theorem dX11_init_6 : decode cX11_init 6 = .ok (.putfield 9, 3) := by decide +kernel
theorem dX11_init_9 : decode cX11_init 9 = .ok (.aload_n 0, 1) := by decide +kernel
theorem dX11_init_10 : decode cX11_init 10 = .ok (.iconst 0, 1) := by decide +kernel
theorem dX11_init_11 : decode cX11_init 11 = .ok (.putfield 15, 3) := by decide +kernel
theorem dX11_init_14 : decode cX11_init 14 = .ok (.aload_n 0, 1) := by decide +kernel
theorem dX11_init_15 : decode cX11_init 15 = .ok (.ldc 18, 2) := by decide +kernel
theorem dX11_init_17 : decode cX11_init 17 = .ok (.putfield 20, 3) := by decide +kernel
theorem dX11_init_20 : decode cX11_init 20 = .ok (.aload_n 0, 1) := by decide +kernel
theorem dX11_init_21 : decode cX11_init 21 = .ok (.iconst (-1), 1) := by decide +kernel
theorem dX11_init_22 : decode cX11_init 22 = .ok (.putfield 24, 3) := by decide +kernel
theorem dX11_init_25 : decode cX11_init 25 = .ok (.aload_n 0, 1) := by decide +kernel
theorem dX11_init_26 : decode cX11_init 26 = .ok (.ldc 18, 2) := by decide +kernel
theorem dX11_init_28 : decode cX11_init 28 = .ok (.putfield 27, 3) := by decide +kernel
theorem dX11_init_31 : decode cX11_init 31 = .ok (.aload_n 0, 1) := by decide +kernel
theorem dX11_init_32 : decode cX11_init 32 = .ok (.iconst (-1), 1) := by decide +kernel
theorem dX11_init_33 : decode cX11_init 33 = .ok (.putfield 30, 3) := by decide +kernel
theorem dX11_init_36 : decode cX11_init 36 = .ok (.aload_n 0, 1) := by decide +kernel
theorem dX11_init_37 : decode cX11_init 37 = .ok (.iconst 0, 1) := by decide +kernel
theorem dX11_init_38 : decode cX11_init 38 = .ok (.putfield 33, 3) := by decide +kernel
theorem dX11_init_41 : decode cX11_init 41 = .ok (.aload_n 0, 1) := by decide +kernel
theorem dX11_init_42 : decode cX11_init 42 = .ok (.iconst 0, 1) := by decide +kernel
theorem dX11_init_43 : decode cX11_init 43 = .ok (.putfield 36, 3) := by decide +kernel
theorem dX11_init_46 : decode cX11_init 46 = .ok (.aload_n 0, 1) := by decide +kernel
theorem dX11_init_47 : decode cX11_init 47 = .ok (.iconst 0, 1) := by decide +kernel
theorem dX11_init_48 : decode cX11_init 48 = .ok (.putfield 39, 3) := by decide +kernel
theorem dX11_init_51 : decode cX11_init 51 = .ok (.aload_n 0, 1) := by decide +kernel
theorem dX11_init_52 : decode cX11_init 52 = .ok (.iconst 0, 1) := by decide +kernel
theorem dX11_init_53 : decode cX11_init 53 = .ok (.putfield 42, 3) := by decide +kernel
theorem dX11_init_56 : decode cX11_init 56 = .ok (.return_, 1) := by decide +kernel
theorem dX0_readPlain_0 : decode cX0_readPlain 0 = .ok (.aload_n 0, 1) := by decide +kernel
theorem dX0_readPlain_1 : decode cX0_readPlain 1 = .ok (.invokevirtual 41, 3) := by decide +kernel
theorem dX0_readPlain_4 : decode cX0_readPlain 4 = .ok (.iload_n 2, 1) := by decide +kernel
theorem dX0_readPlain_5 : decode cX0_readPlain 5 = .ok (.if_icmp .ne 26, 3) := by decide +kernel
theorem dX0_readPlain_8 : decode cX0_readPlain 8 = .ok (.aload_n 0, 1) := by decide +kernel
theorem dX0_readPlain_9 : decode cX0_readPlain 9 = .ok (.iload_n 2, 1) := by decide +kernel
theorem dX0_readPlain_10 : decode cX0_readPlain 10 = .ok (.iload_n 3, 1) := by decide +kernel
theorem dX0_readPlain_11 : decode cX0_readPlain 11 = .ok (.invokevirtual 71, 3) := by decide +kernel
theorem dX0_readPlain_14 : decode cX0_readPlain 14 = .ok (.astore 4, 2) := by decide +kernel
theorem dX0_readPlain_16 : decode cX0_readPlain 16 = .ok (.aload_n 1, 1) := by decide +kernel
theorem dX0_readPlain_17 : decode cX0_readPlain 17 = .ok (.iconst 4, 1) := by decide +kernel
theorem dX0_readPlain_18 : decode cX0_readPlain 18 = .ok (.aload 4, 2) := by decide +kernel
theorem dX0_readPlain_20 : decode cX0_readPlain 20 = .ok (.invokevirtual 24, 3) := by decide +kernel
theorem dX0_readPlain_23 : decode cX0_readPlain 23 = .ok (.aload 4, 2) := by decide +kernel
theorem dX0_readPlain_25 : decode cX0_readPlain 25 = .ok (.invokevirtual 75, 3) := by decide +kernel
theorem dX0_readPlain_28 : decode cX0_readPlain 28 = .ok (.goto 94, 3) := by decide +kernel
theorem dX0_readPlain_31 : decode cX0_readPlain 31 = .ok (.aload_n 0, 1) := by decide +kernel
theorem dX0_readPlain_32 : decode cX0_readPlain 32 = .ok (.invokevirtual 41, 3) := by decide +kernel
theorem dX0_readPlain_35 : decode cX0_readPlain 35 = .ok (.bipush 110, 2) := by decide +kernel
theorem dX0_readPlain_37 : decode cX0_readPlain 37 = .ok (.if_icmp .ne 20, 3) := by decide +kernel
theorem dX0_readPlain_40 : decode cX0_readPlain 40 = .ok (.aload_n 0, 1) := by decide +kernel
theorem dX0_readPlain_41 : decode cX0_readPlain 41 = .ok (.ldc 81, 2) := by decide +kernel
theorem dX0_readPlain_43 : decode cX0_readPlain 43 = .ok (.invokevirtual 83, 3) := by decide +kernel
theorem dX0_readPlain_46 : decode cX0_readPlain 46 = .ok (.aload_n 1, 1) := by decide +kernel
theorem dX0_readPlain_47 : decode cX0_readPlain 47 = .ok (.iconst 0, 1) := by decide +kernel
theorem dX0_readPlain_48 : decode cX0_readPlain 48 = .ok (.iconst 0, 1) := by decide +kernel
theorem dX0_readPlain_49 : decode cX0_readPlain 49 = .ok (.ldc 9, 2) := by decide +kernel
theorem dX0_readPlain_51 : decode cX0_readPlain 51 = .ok (.invokevirtual 75, 3) := by decide +kernel
theorem dX0_readPlain_54 : decode cX0_readPlain 54 = .ok (.goto 68, 3) := by decide +kernel
theorem dX0_readPlain_57 : decode cX0_readPlain 57 = .ok (.aload_n 0, 1) := by decide +kernel
theorem dX0_readPlain_58 : decode cX0_readPlain 58 = .ok (.invokevirtual 41, 3) := by decide +kernel
theorem dX0_readPlain_61 : decode cX0_readPlain 61 = .ok (.bipush 102, 2) := by decide +kernel
theorem dX0_readPlain_63 : decode cX0_readPlain 63 = .ok (.if_icmp .ne 20, 3) := by decide +kernel
theorem dX0_readPlain_66 : decode cX0_readPlain 66 = .ok (.aload_n 0, 1) := by decide +kernel
theorem dX0_readPlain_67 : decode cX0_readPlain 67 = .ok (.ldc 86, 2) := by decide +kernel
theorem dX0_readPlain_69 : decode cX0_readPlain 69 = .ok (.invokevirtual 83, 3) := by decide +kernel
theorem dX0_readPlain_72 : decode cX0_readPlain 72 = .ok (.aload_n 1, 1) := by decide +kernel
theorem dX0_readPlain_73 : decode cX0_readPlain 73 = .ok (.iconst 1, 1) := by decide +kernel
theorem dX0_readPlain_74 : decode cX0_readPlain 74 = .ok (.iconst 0, 1) := by decide +kernel
theorem dX0_readPlain_75 : decode cX0_readPlain 75 = .ok (.ldc 9, 2) := by decide +kernel
theorem dX0_readPlain_77 : decode cX0_readPlain 77 = .ok (.invokevirtual 75, 3) := by decide +kernel
theorem dX0_readPlain_80 : decode cX0_readPlain 80 = .ok (.goto 42, 3) := by decide +kernel
theorem dX0_readPlain_83 : decode cX0_readPlain 83 = .ok (.aload_n 0, 1) := by decide +kernel
theorem dX0_readPlain_84 : decode cX0_readPlain 84 = .ok (.invokevirtual 41, 3) := by decide +kernel
theorem dX0_readPlain_87 : decode cX0_readPlain 87 = .ok (.bipush 116, 2) := by decide +kernel
theorem dX0_readPlain_89 : decode cX0_readPlain 89 = .ok (.if_icmp .ne 20, 3) := by decide +kernel
theorem dX0_readPlain_92 : decode cX0_readPlain 92 = .ok (.aload_n 0, 1) := by decide +kernel
theorem dX0_readPlain_93 : decode cX0_readPlain 93 = .ok (.ldc 88, 2) := by decide +kernel
theorem dX0_readPlain_95 : decode cX0_readPlain 95 = .ok (.invokevirtual 83, 3) := by decide +kernel
theorem dX0_readPlain_98 : decode cX0_readPlain 98 = .ok (.aload_n 1, 1) := by decide +kernel
theorem dX0_readPlain_99 : decode cX0_readPlain 99 = .ok (.iconst 2, 1) := by decide +kernel
theorem dX0_readPlain_100 : decode cX0_readPlain 100 = .ok (.iconst 0, 1) := by decide +kernel
theorem dX0_readPlain_101 : decode cX0_readPlain 101 = .ok (.ldc 9, 2) := by decide +kernel
theorem dX0_readPlain_103 : decode cX0_readPlain 103 = .ok (.invokevirtual 75, 3) := by decide +kernel
theorem dX0_readPlain_106 : decode cX0_readPlain 106 = .ok (.goto 16, 3) := by decide +kernel
theorem dX0_readPlain_109 : decode cX0_readPlain 109 = .ok (.aload_n 1, 1) := by decide +kernel
theorem dX0_readPlain_110 : decode cX0_readPlain 110 = .ok (.iconst 3, 1) := by decide +kernel
theorem dX0_readPlain_111 : decode cX0_readPlain 111 = .ok (.aload_n 0, 1) := by decide +kernel
theorem dX0_readPlain_112 : decode cX0_readPlain 112 = .ok (.bipush 6, 2) := by decide +kernel
theorem dX0_readPlain_114 : decode cX0_readPlain 114 = .ok (.invokevirtual 90, 3) := by decide +kernel
theorem dX0_readPlain_117 : decode cX0_readPlain 117 = .ok (.ldc 9, 2) := by decide +kernel
theorem dX0_readPlain_119 : decode cX0_readPlain 119 = .ok (.invokevirtual 75, 3) := by decide +kernel
theorem dX0_readPlain_122 : decode cX0_readPlain 122 = .ok (.return_, 1) := by decide +kernel
abbrev valE (kd sz : Int32) (sr : Nat) (nu : Int32) (nm : Nat) (ou pl af be en : Int32) : va_E := .inr (13, [.int kd, .int sz, .ref sr, .int nu, .ref nm, .int ou, .int pl, .int af, .int be, .int en])
set_option maxRecDepth 100000 in
set_option maxHeartbeats 4000000 in
theorem sp_become {l : Launch} {G : mv_G} {d : Nat} {h : mv_H} (hG : mv_ok G) {v sr nm : Nat} {kd sz nu ou pl af be en : Int32} (fv : h.2.2 v = some (valE kd sz sr nu nm ou pl af be en)) {k2 z2 : Int32} {s2 : Nat} (hv : G.2.2.1 ≤ v) (hd : 1 ≤ d) : mv_rq l G mX11_become d 0 (mv_in [.ref v, .int k2, .int z2, .ref s2] 4) [] h (fun o h1 => o = .inl none ∧ mv_set h v (valE k2 z2 s2 nu nm ou pl af be en) = h1) := by
  obtain ⟨d, rfl⟩ : ∃ e, d = e + 1 := ⟨d - 1, by omega⟩
  show mv_rq l G mX11_become (d + 1) 0 [some (.ref v), some (.int k2), some (.int z2), some (.ref s2)] [] h _
  refine q_aload_n dX11_become_0 rfl ?_
  refine q_iload_n dX11_become_1 rfl ?_
  refine q_putf (k := 0) (T := TX11) (C0 := RX11) (N := 10) (ci := 13) (ty := .int) tyX11 tyX11_ok nmX11 dX11_become_2 fl_RX11_9 rfl uin_RX11 (by decide) rfl rfl (by decide +kernel) rfl rfl hv fv (Nat.le_of_ble_eq_true rfl) ?_
  show mv_rq l G mX11_become (d + 1) 5 [some (.ref v), some (.int k2), some (.int z2), some (.ref s2)] [] (mv_set h v (.inr (13, [.int k2, .int sz, .ref sr, .int nu, .ref nm, .int ou, .int pl, .int af, .int be, .int en]))) _
  obtain ⟨h_1, eh_1⟩ : ∃ z, z = mv_set h v (.inr (13, [.int k2, .int sz, .ref sr, .int nu, .ref nm, .int ou, .int pl, .int af, .int be, .int en])) := ⟨_, rfl⟩
  rw [← eh_1]
  have fh_1_v : h_1.2.2 v = some (.inr (13, [.int k2, .int sz, .ref sr, .int nu, .ref nm, .int ou, .int pl, .int af, .int be, .int en])) := by rw [eh_1]; exact mv_set_s
  refine q_aload_n dX11_become_5 rfl ?_
  refine q_iload_n dX11_become_6 rfl ?_
  refine q_putf (k := 1) (T := TX11) (C0 := RX11) (N := 10) (ci := 13) (ty := .int) tyX11 tyX11_ok nmX11 dX11_become_7 fl_RX11_15 rfl uin_RX11 (by decide) rfl rfl (by decide +kernel) rfl rfl hv fh_1_v (Nat.le_of_ble_eq_true rfl) ?_
  show mv_rq l G mX11_become (d + 1) 10 [some (.ref v), some (.int k2), some (.int z2), some (.ref s2)] [] (mv_set h_1 v (.inr (13, [.int k2, .int z2, .ref sr, .int nu, .ref nm, .int ou, .int pl, .int af, .int be, .int en]))) _
  obtain ⟨h_2, eh_2⟩ : ∃ z, z = mv_set h_1 v (.inr (13, [.int k2, .int z2, .ref sr, .int nu, .ref nm, .int ou, .int pl, .int af, .int be, .int en])) := ⟨_, rfl⟩
  rw [← eh_2]
  have fh_2_v : h_2.2.2 v = some (.inr (13, [.int k2, .int z2, .ref sr, .int nu, .ref nm, .int ou, .int pl, .int af, .int be, .int en])) := by rw [eh_2]; exact mv_set_s
  refine q_aload_n dX11_become_10 rfl ?_
  refine q_aload_n dX11_become_11 rfl ?_
  refine q_putf (k := 2) (T := TX11) (C0 := RX11) (N := 10) (ci := 13) (ty := (.object "java/lang/String")) tyX11 tyX11_ok nmX11 dX11_become_12 fl_RX11_20 rfl uin_RX11 (by decide) rfl rfl (by decide +kernel) rfl rfl hv fh_2_v (Nat.le_of_ble_eq_true rfl) ?_
  show mv_rq l G mX11_become (d + 1) 15 [some (.ref v), some (.int k2), some (.int z2), some (.ref s2)] [] (mv_set h_2 v (.inr (13, [.int k2, .int z2, .ref s2, .int nu, .ref nm, .int ou, .int pl, .int af, .int be, .int en]))) _
  obtain ⟨h_3, eh_3⟩ : ∃ z, z = mv_set h_2 v (.inr (13, [.int k2, .int z2, .ref s2, .int nu, .ref nm, .int ou, .int pl, .int af, .int be, .int en])) := ⟨_, rfl⟩
  rw [← eh_3]
  have fh_3_v : h_3.2.2 v = some (.inr (13, [.int k2, .int z2, .ref s2, .int nu, .ref nm, .int ou, .int pl, .int af, .int be, .int en])) := by rw [eh_3]; exact mv_set_s
  exact q_vret dX11_become_15 rfl ⟨rfl, by rw [eh_3, eh_2, eh_1, mv_set_set, mv_set_set]⟩
set_option maxRecDepth 100000 in
set_option maxHeartbeats 4000000 in
theorem sp_childCount {l : Launch} {G : mv_G} {d : Nat} {h : mv_H} (hG : mv_ok G) {v sr nm : Nat} {kd sz nu ou pl af be en : Int32} (fv : h.2.2 v = some (valE kd sz sr nu nm ou pl af be en)) (hd : 1 ≤ d) : mv_rq l G mX11_childCount d 0 (mv_in [.ref v] 1) [] h (fun o h1 => o = .inl (some (.int (if kd = 5 ∨ kd = 6 then sz else 0))) ∧ h = h1) := by
  obtain ⟨d, rfl⟩ : ∃ e, d = e + 1 := ⟨d - 1, by omega⟩
  show mv_rq l G mX11_childCount (d + 1) 0 [some (.ref v)] [] h _
  refine q_aload_n dX11_childCount_0 rfl ?_
  refine q_getf (k := 0) (T := TX11) (C0 := RX11) (N := 10) (ci := 13) dX11_childCount_1 fl_RX11_9 rfl uin_RX11 (by decide) rfl fv rfl ?_
  refine q_iconst (v := 5) dX11_childCount_4 (by decide) ?_
  refine q_icmp_eq (tgt := 17) dX11_childCount_5 (by decide) (fun c_5 => ?_) (fun c_5 => ?_)
  ·
    rw [if_pos (Or.inl c_5)]
    refine q_aload_n dX11_childCount_17 rfl ?_
    refine q_getf (k := 1) (T := TX11) (C0 := RX11) (N := 10) (ci := 13) dX11_childCount_18 fl_RX11_15 rfl uin_RX11 (by decide) rfl fv rfl ?_
    refine q_goto (tgt := 25) dX11_childCount_21 (by decide) ?_
    exact q_iret (ty := .int) dX11_childCount_25 rfl rfl ⟨rfl, rfl⟩
  ·
    refine q_aload_n dX11_childCount_8 rfl ?_
    refine q_getf (k := 0) (T := TX11) (C0 := RX11) (N := 10) (ci := 13) dX11_childCount_9 fl_RX11_9 rfl uin_RX11 (by decide) rfl fv rfl ?_
    refine q_bipush (v := 6) dX11_childCount_12 (by decide) ?_
    refine q_icmp_ne (tgt := 24) dX11_childCount_14 (by decide) (fun c_14 => ?_) (fun c_14 => ?_)
    ·
      rw [if_neg (fun z => z.elim c_5 c_14)]
      refine q_iconst (v := 0) dX11_childCount_24 (by decide) ?_
      exact q_iret (ty := .int) dX11_childCount_25 rfl rfl ⟨rfl, rfl⟩
    ·
      rw [if_pos (Or.inr c_14)]
      refine q_aload_n dX11_childCount_17 rfl ?_
      refine q_getf (k := 1) (T := TX11) (C0 := RX11) (N := 10) (ci := 13) dX11_childCount_18 fl_RX11_15 rfl uin_RX11 (by decide) rfl fv rfl ?_
      refine q_goto (tgt := 25) dX11_childCount_21 (by decide) ?_
      exact q_iret (ty := .int) dX11_childCount_25 rfl rfl ⟨rfl, rfl⟩
def tNull : List Nat := [110, 117, 108, 108]
def tFalse : List Nat := [102, 97, 108, 115, 101]
def tTrue : List Nat := [116, 114, 117, 101]
def rdW (t v : List Nat) (k : Int32) (p : Nat) : (Int32 × Int32 × List Nat × Nat) ⊕ Nat := match exW t v v.length 0 p with
  | .inl p' => .inl (k, 0, [], p')
  | .inr w => .inr w
def rdP (t : List Nat) (qt br p : Nat) : (Int32 × Int32 × List Nat × Nat) ⊕ Nat :=
  if lk t p = qt then (match rdS t qt br p with
    | .inl p' => .inl (4, nI (p' - (p + 1)), (t.drop (p + 1)).take (p' - (p + 1)), p' + 1)
    | .inr w => .inr w)
  else if lk t p = 110 then rdW t tNull 0 p
  else if lk t p = 102 then rdW t tFalse 1 p
  else if lk t p = 116 then rdW t tTrue 2 p
  else (match rdN t 6 p with
    | .inl (v, p') => .inl (3, v, [], p')
    | .inr w => .inr w)
def mv_lits (G : mv_G) (h : mv_H) (z0 z1 z2 z3 : Nat) : Prop := (mv_lt G RX0 9 "" z0 ∧ mv_str G h z0 []) ∧ (mv_lt G RX0 81 "null" z1 ∧ mv_str G h z1 tNull) ∧ (mv_lt G RX0 86 "false" z2 ∧ mv_str G h z2 tFalse) ∧ (mv_lt G RX0 88 "true" z3 ∧ mv_str G h z3 tTrue)
abbrev mvQp (G : mv_G) (h : mv_H) (c s v : Nat) (t : List Nat) (ill : Int32) (nu : Int32) (nm : Nat) (ou pl af be en : Int32) (r : (Int32 × Int32 × List Nat × Nat) ⊕ Nat) (o : mv_O) (h1 : mv_H) : Prop :=
  (∃ (kd sz : Int32) (tx : List Nat) (p' a : Nat) (hm : mv_H), r = .inl (kd, sz, tx, p') ∧ p' ≤ t.length ∧ o = .inl none ∧ mv_made (mv_set h c (curE s p' ill)) hm ∧ mv_str G hm a tx ∧ mv_set hm v (valE kd sz a nu nm ou pl af be en) = h1) ∨
  (∃ w p'', r = .inr w ∧ o = .inr (xIA, h.1) ∧ thr (mv_set h c (curE s p'' (nI w))) = h1)
set_option maxRecDepth 100000 in
set_option maxHeartbeats 4000000 in
theorem sp_readPlain {l : Launch} {G : mv_G} {d : Nat} {h : mv_H} (hG : mv_ok G) (hX : mv_okX l G) {c s : Nat} {t : List Nat} {p : Nat} {ill : Int32} (fc : h.2.2 c = some (curE s p ill)) (hs : mv_str G h s t) {v sr nm z0 z1 z2 z3 : Nat} {kd sz nu ou pl af be en : Int32} (fv : h.2.2 v = some (valE kd sz sr nu nm ou pl af be en)) (he : mv_env G h) (hl : mv_lits G h z0 z1 z2 z3) (ht : t.length ≤ 160) {qt br : Nat} (q0 : qt ≠ 0) (q9 : qt < 128) (r9 : br < 128) (hp : p ≤ t.length) (hc : G.2.2.1 ≤ c) (hvb : G.2.2.1 ≤ v) (hd : 10 ≤ d) : mv_rq l G mX0_readPlain d 0 (mv_in [.ref c, .ref v, .int (nI qt), .int (nI br)] 5) [] h (mvQp G h c s v t ill nu nm ou pl af be en (rdP t qt br p)) := by
  obtain ⟨d, rfl⟩ : ∃ e, d = e + 1 := ⟨d - 1, by omega⟩
  obtain ⟨q, x, y, f, fs, fq, h3, h4, h5⟩ := mv_str_at hs
  obtain ⟨⟨l0, s0⟩, ⟨l1, s1⟩, ⟨l2, s2⟩, l3, s3⟩ := hl
  have nvc : v ≠ c := mv_ne fc fv (show (2 : Nat) ≠ 13 by decide)
  have hvl : v < h.1 := mv_wf_lt he.2.1 fv
  show mv_rq l G mX0_readPlain (d + 1) 0 [some (.ref c), some (.ref v), some (.int (nI qt)), some (.int (nI br)), none] [] h _
  refine q_aload_n dX0_readPlain_0 rfl ?_
  refine q_cV (Y := mX0_look) (As := []) (st := []) (b := c) (ci := 2) vc_X0_look dX0_readPlain_1 ml_RX0_41 rfl fc rfl (Nat.le_of_ble_eq_true rfl) rfl (Nat.le_of_ble_eq_true rfl) (sp_look hG fc hs hp (by omega)) (fun v h1 hq => ?_) (fun E h1 hq => nomatch hq.1)
  obtain ⟨hv, rfl⟩ := hq
  cases hv
  show mv_rq l G mX0_readPlain (d + 1) 4 [some (.ref c), some (.ref v), some (.int (nI qt)), some (.int (nI br)), none] [.int (nI (lk t p))] h _
  refine q_iload_n dX0_readPlain_4 rfl ?_
  refine q_icmp_ne (tgt := 31) dX0_readPlain_5 (by decide) (fun c_5 => ?_) (fun c_5 => ?_)
  ·
    have k1 : lk t p ≠ qt := fun z => c_5 (by rw [z])
    refine q_aload_n dX0_readPlain_31 rfl ?_
    refine q_cV (Y := mX0_look) (As := []) (st := []) (b := c) (ci := 2) vc_X0_look dX0_readPlain_32 ml_RX0_41 rfl fc rfl (Nat.le_of_ble_eq_true rfl) rfl (Nat.le_of_ble_eq_true rfl) (sp_look hG fc hs hp (by omega)) (fun v h1 hq => ?_) (fun E h1 hq => nomatch hq.1)
    obtain ⟨hv, rfl⟩ := hq
    cases hv
    show mv_rq l G mX0_readPlain (d + 1) 35 [some (.ref c), some (.ref v), some (.int (nI qt)), some (.int (nI br)), none] [.int (nI (lk t p))] h _
    refine q_bipush (v := 110) dX0_readPlain_35 (by decide) ?_
    refine q_icmp_ne (tgt := 57) dX0_readPlain_37 (by decide) (fun c_37 => ?_) (fun c_37 => ?_)
    ·
      have k2 : lk t p ≠ 110 := fun z => c_37 (by rw [z]; rfl)
      refine q_aload_n dX0_readPlain_57 rfl ?_
      refine q_cV (Y := mX0_look) (As := []) (st := []) (b := c) (ci := 2) vc_X0_look dX0_readPlain_58 ml_RX0_41 rfl fc rfl (Nat.le_of_ble_eq_true rfl) rfl (Nat.le_of_ble_eq_true rfl) (sp_look hG fc hs hp (by omega)) (fun v h1 hq => ?_) (fun E h1 hq => nomatch hq.1)
      obtain ⟨hv, rfl⟩ := hq
      cases hv
      show mv_rq l G mX0_readPlain (d + 1) 61 [some (.ref c), some (.ref v), some (.int (nI qt)), some (.int (nI br)), none] [.int (nI (lk t p))] h _
      refine q_bipush (v := 102) dX0_readPlain_61 (by decide) ?_
      refine q_icmp_ne (tgt := 83) dX0_readPlain_63 (by decide) (fun c_63 => ?_) (fun c_63 => ?_)
      ·
        have k3 : lk t p ≠ 102 := fun z => c_63 (by rw [z]; rfl)
        refine q_aload_n dX0_readPlain_83 rfl ?_
        refine q_cV (Y := mX0_look) (As := []) (st := []) (b := c) (ci := 2) vc_X0_look dX0_readPlain_84 ml_RX0_41 rfl fc rfl (Nat.le_of_ble_eq_true rfl) rfl (Nat.le_of_ble_eq_true rfl) (sp_look hG fc hs hp (by omega)) (fun v h1 hq => ?_) (fun E h1 hq => nomatch hq.1)
        obtain ⟨hv, rfl⟩ := hq
        cases hv
        show mv_rq l G mX0_readPlain (d + 1) 87 [some (.ref c), some (.ref v), some (.int (nI qt)), some (.int (nI br)), none] [.int (nI (lk t p))] h _
        refine q_bipush (v := 116) dX0_readPlain_87 (by decide) ?_
        refine q_icmp_ne (tgt := 109) dX0_readPlain_89 (by decide) (fun c_89 => ?_) (fun c_89 => ?_)
        ·
          have k4 : lk t p ≠ 116 := fun z => c_89 (by rw [z]; rfl)
          refine q_aload_n dX0_readPlain_109 rfl ?_
          refine q_iconst (v := 3) dX0_readPlain_110 (by decide) ?_
          refine q_aload_n dX0_readPlain_111 rfl ?_
          refine q_bipush (v := 6) dX0_readPlain_112 (by decide) ?_
          refine q_cV (Y := mX0_readNumber) (As := [.int 6]) (st := [.int 3, .ref v]) (b := c) (ci := 2) vc_X0_readNumber dX0_readPlain_114 ml_RX0_90 rfl fc rfl (Nat.le_of_ble_eq_true rfl) rfl (Nat.le_of_ble_eq_true rfl) (sp_readNumber hG hX fc hs (lim := 6) (by decide) hp hc (by omega)) (fun v h1 hq => ?_) (fun E h1 hq => by
      rcases hq with ⟨v9, p', e1, e2, hv9, he9⟩ | ⟨w, p', e1, hv9, rfl⟩
      · cases hv9
      · cases hv9
        exact q_xout (fun z hz => nomatch hz) (Or.inr ⟨w, p', by simp [rdP, k1, k2, k3, k4, e1], rfl, rfl⟩))
          rcases hq with ⟨v9, p', e1, e2, hv9, rfl⟩ | ⟨w, p', e1, hv9, he9⟩
          · cases hv9
            have fv2 : (mv_set h c (curE s p' ill)).2.2 v = some (valE kd sz sr nu nm ou pl af be en) := by rw [mv_set_n nvc]; exact fv
            have e3 : rdP t qt br p = .inl (3, v9, [], p') := by simp [rdP, k1, k2, k3, k4, e1]
            show mv_rq l G mX0_readPlain (d + 1) 117 [some (.ref c), some (.ref v), some (.int (nI qt)), some (.int (nI br)), none] [.int v9, .int 3, .ref v] (mv_set h c (curE s p' ill)) _
            refine q_ldcS dX0_readPlain_117 l0 ?_
            refine q_cV (Y := mX11_become) (As := [.int 3, .int v9, .ref z0]) (st := []) (b := v) (ci := 13) vc_X11_become dX0_readPlain_119 ml_RX0_75 rfl fv2 rfl (Nat.le_of_ble_eq_true rfl) rfl (Nat.le_of_ble_eq_true rfl) (sp_become hG fv2 hvb (by omega)) (fun v h1 hq => ?_) (fun E h1 hq => nomatch hq.1)
            obtain ⟨hv, rfl⟩ := hq
            cases hv
            show mv_rq l G mX0_readPlain (d + 1) 122 [some (.ref c), some (.ref v), some (.int (nI qt)), some (.int (nI br)), none] [] (mv_set (mv_set h c (curE s p' ill)) v (valE 3 v9 z0 nu nm ou pl af be en)) _
            exact q_vret dX0_readPlain_122 rfl (Or.inl ⟨3, v9, [], p', z0, _, e3, e2, rfl, mv_made.rf (mv_wf_set he.2.1 fc), s0.set fc (show (2 : Nat) ≠ 0 by decide) (show (2 : Nat) ≠ 1000 by decide), rfl⟩)
          · cases hv9
        ·
          have k4 : lk t p = 116 := (neq (h4 p) (by decide)).mp c_89
          have n2 : ¬ 116 = qt := fun z => k1 (by rw [k4]; exact z)
          refine q_aload_n dX0_readPlain_92 rfl ?_
          refine q_ldcS dX0_readPlain_93 l3 ?_
          refine q_cV (Y := mX0_expectWord) (As := [.ref z3]) (st := []) (b := c) (ci := 2) vc_X0_expectWord dX0_readPlain_95 ml_RX0_83 rfl fc rfl (Nat.le_of_ble_eq_true rfl) rfl (Nat.le_of_ble_eq_true rfl) (sp_expectWord hG hX fc hs s3 (by decide) hp hc (by omega)) (fun v h1 hq => ?_) (fun E h1 hq => by
      rcases hq with ⟨p', e1, e2, hv9, he9⟩ | ⟨p', e1, hv9, rfl⟩
      · cases hv9
      · cases hv9
        exact q_xout (fun z hz => nomatch hz) (Or.inr ⟨p', p', by simp [rdP, k1, k4, n2, rdW, e1], rfl, rfl⟩))
          rcases hq with ⟨p', e1, e2, hv9, rfl⟩ | ⟨p', e1, hv9, he9⟩
          · cases hv9
            have fv2 : (mv_set h c (curE s p' ill)).2.2 v = some (valE kd sz sr nu nm ou pl af be en) := by rw [mv_set_n nvc]; exact fv
            have e3 : rdP t qt br p = .inl (2, 0, [], p') := by simp [rdP, k1, k4, n2, rdW, e1]
            show mv_rq l G mX0_readPlain (d + 1) 98 [some (.ref c), some (.ref v), some (.int (nI qt)), some (.int (nI br)), none] [] (mv_set h c (curE s p' ill)) _
            refine q_aload_n dX0_readPlain_98 rfl ?_
            refine q_iconst (v := 2) dX0_readPlain_99 (by decide) ?_
            refine q_iconst (v := 0) dX0_readPlain_100 (by decide) ?_
            refine q_ldcS dX0_readPlain_101 l0 ?_
            refine q_cV (Y := mX11_become) (As := [.int 2, .int 0, .ref z0]) (st := []) (b := v) (ci := 13) vc_X11_become dX0_readPlain_103 ml_RX0_75 rfl fv2 rfl (Nat.le_of_ble_eq_true rfl) rfl (Nat.le_of_ble_eq_true rfl) (sp_become hG fv2 hvb (by omega)) (fun v h1 hq => ?_) (fun E h1 hq => nomatch hq.1)
            obtain ⟨hv, rfl⟩ := hq
            cases hv
            show mv_rq l G mX0_readPlain (d + 1) 106 [some (.ref c), some (.ref v), some (.int (nI qt)), some (.int (nI br)), none] [] (mv_set (mv_set h c (curE s p' ill)) v (valE 2 0 z0 nu nm ou pl af be en)) _
            refine q_goto (tgt := 122) dX0_readPlain_106 (by decide) ?_
            exact q_vret dX0_readPlain_122 rfl (Or.inl ⟨2, 0, [], p', z0, _, e3, e2, rfl, mv_made.rf (mv_wf_set he.2.1 fc), s0.set fc (show (2 : Nat) ≠ 0 by decide) (show (2 : Nat) ≠ 1000 by decide), rfl⟩)
          · cases hv9
      ·
        have k3 : lk t p = 102 := (neq (h4 p) (by decide)).mp c_63
        have n2 : ¬ 102 = qt := fun z => k1 (by rw [k3]; exact z)
        refine q_aload_n dX0_readPlain_66 rfl ?_
        refine q_ldcS dX0_readPlain_67 l2 ?_
        refine q_cV (Y := mX0_expectWord) (As := [.ref z2]) (st := []) (b := c) (ci := 2) vc_X0_expectWord dX0_readPlain_69 ml_RX0_83 rfl fc rfl (Nat.le_of_ble_eq_true rfl) rfl (Nat.le_of_ble_eq_true rfl) (sp_expectWord hG hX fc hs s2 (by decide) hp hc (by omega)) (fun v h1 hq => ?_) (fun E h1 hq => by
      rcases hq with ⟨p', e1, e2, hv9, he9⟩ | ⟨p', e1, hv9, rfl⟩
      · cases hv9
      · cases hv9
        exact q_xout (fun z hz => nomatch hz) (Or.inr ⟨p', p', by simp [rdP, k1, k3, n2, rdW, e1], rfl, rfl⟩))
        rcases hq with ⟨p', e1, e2, hv9, rfl⟩ | ⟨p', e1, hv9, he9⟩
        · cases hv9
          have fv2 : (mv_set h c (curE s p' ill)).2.2 v = some (valE kd sz sr nu nm ou pl af be en) := by rw [mv_set_n nvc]; exact fv
          have e3 : rdP t qt br p = .inl (1, 0, [], p') := by simp [rdP, k1, k3, n2, rdW, e1]
          show mv_rq l G mX0_readPlain (d + 1) 72 [some (.ref c), some (.ref v), some (.int (nI qt)), some (.int (nI br)), none] [] (mv_set h c (curE s p' ill)) _
          refine q_aload_n dX0_readPlain_72 rfl ?_
          refine q_iconst (v := 1) dX0_readPlain_73 (by decide) ?_
          refine q_iconst (v := 0) dX0_readPlain_74 (by decide) ?_
          refine q_ldcS dX0_readPlain_75 l0 ?_
          refine q_cV (Y := mX11_become) (As := [.int 1, .int 0, .ref z0]) (st := []) (b := v) (ci := 13) vc_X11_become dX0_readPlain_77 ml_RX0_75 rfl fv2 rfl (Nat.le_of_ble_eq_true rfl) rfl (Nat.le_of_ble_eq_true rfl) (sp_become hG fv2 hvb (by omega)) (fun v h1 hq => ?_) (fun E h1 hq => nomatch hq.1)
          obtain ⟨hv, rfl⟩ := hq
          cases hv
          show mv_rq l G mX0_readPlain (d + 1) 80 [some (.ref c), some (.ref v), some (.int (nI qt)), some (.int (nI br)), none] [] (mv_set (mv_set h c (curE s p' ill)) v (valE 1 0 z0 nu nm ou pl af be en)) _
          refine q_goto (tgt := 122) dX0_readPlain_80 (by decide) ?_
          exact q_vret dX0_readPlain_122 rfl (Or.inl ⟨1, 0, [], p', z0, _, e3, e2, rfl, mv_made.rf (mv_wf_set he.2.1 fc), s0.set fc (show (2 : Nat) ≠ 0 by decide) (show (2 : Nat) ≠ 1000 by decide), rfl⟩)
        · cases hv9
    ·
      have k2 : lk t p = 110 := (neq (h4 p) (by decide)).mp c_37
      have n2 : ¬ 110 = qt := fun z => k1 (by rw [k2]; exact z)
      refine q_aload_n dX0_readPlain_40 rfl ?_
      refine q_ldcS dX0_readPlain_41 l1 ?_
      refine q_cV (Y := mX0_expectWord) (As := [.ref z1]) (st := []) (b := c) (ci := 2) vc_X0_expectWord dX0_readPlain_43 ml_RX0_83 rfl fc rfl (Nat.le_of_ble_eq_true rfl) rfl (Nat.le_of_ble_eq_true rfl) (sp_expectWord hG hX fc hs s1 (by decide) hp hc (by omega)) (fun v h1 hq => ?_) (fun E h1 hq => by
      rcases hq with ⟨p', e1, e2, hv9, he9⟩ | ⟨p', e1, hv9, rfl⟩
      · cases hv9
      · cases hv9
        exact q_xout (fun z hz => nomatch hz) (Or.inr ⟨p', p', by simp [rdP, k1, k2, n2, rdW, e1], rfl, rfl⟩))
      rcases hq with ⟨p', e1, e2, hv9, rfl⟩ | ⟨p', e1, hv9, he9⟩
      · cases hv9
        have fv2 : (mv_set h c (curE s p' ill)).2.2 v = some (valE kd sz sr nu nm ou pl af be en) := by rw [mv_set_n nvc]; exact fv
        have e3 : rdP t qt br p = .inl (0, 0, [], p') := by simp [rdP, k1, k2, n2, rdW, e1]
        show mv_rq l G mX0_readPlain (d + 1) 46 [some (.ref c), some (.ref v), some (.int (nI qt)), some (.int (nI br)), none] [] (mv_set h c (curE s p' ill)) _
        refine q_aload_n dX0_readPlain_46 rfl ?_
        refine q_iconst (v := 0) dX0_readPlain_47 (by decide) ?_
        refine q_iconst (v := 0) dX0_readPlain_48 (by decide) ?_
        refine q_ldcS dX0_readPlain_49 l0 ?_
        refine q_cV (Y := mX11_become) (As := [.int 0, .int 0, .ref z0]) (st := []) (b := v) (ci := 13) vc_X11_become dX0_readPlain_51 ml_RX0_75 rfl fv2 rfl (Nat.le_of_ble_eq_true rfl) rfl (Nat.le_of_ble_eq_true rfl) (sp_become hG fv2 hvb (by omega)) (fun v h1 hq => ?_) (fun E h1 hq => nomatch hq.1)
        obtain ⟨hv, rfl⟩ := hq
        cases hv
        show mv_rq l G mX0_readPlain (d + 1) 54 [some (.ref c), some (.ref v), some (.int (nI qt)), some (.int (nI br)), none] [] (mv_set (mv_set h c (curE s p' ill)) v (valE 0 0 z0 nu nm ou pl af be en)) _
        refine q_goto (tgt := 122) dX0_readPlain_54 (by decide) ?_
        exact q_vret dX0_readPlain_122 rfl (Or.inl ⟨0, 0, [], p', z0, _, e3, e2, rfl, mv_made.rf (mv_wf_set he.2.1 fc), s0.set fc (show (2 : Nat) ≠ 0 by decide) (show (2 : Nat) ≠ 1000 by decide), rfl⟩)
      · cases hv9
  ·
    have k1 : lk t p = qt := (neq (h4 p) q9).mp c_5
    refine q_aload_n dX0_readPlain_8 rfl ?_
    refine q_iload_n dX0_readPlain_9 rfl ?_
    refine q_iload_n dX0_readPlain_10 rfl ?_
    refine q_cV (Y := mX0_readString) (As := [.int (nI qt), .int (nI br)]) (st := []) (b := c) (ci := 2) vc_X0_readString dX0_readPlain_11 ml_RX0_71 rfl fc rfl (Nat.le_of_ble_eq_true rfl) rfl (Nat.le_of_ble_eq_true rfl) (sp_readString hG hX fc hs he ht q0 q9 r9 hp hc (by omega)) (fun v h1 hq => ?_) (fun E h1 hq => by
      rcases hq with ⟨p', e1, e2, e4, a, hv9, hsa, hmd⟩ | ⟨w, p', e1, hv9, rfl⟩
      · cases hv9
      · cases hv9
        exact q_xout (fun z hz => nomatch hz) (Or.inr ⟨w, p', by simp [rdP, k1, e1], rfl, rfl⟩))
    rcases hq with ⟨p', e1, e2, e4, a, hv9, hsa, hmd⟩ | ⟨w, p', e1, hv9, he9⟩
    · cases hv9
      have fv2 : h1.2.2 v = some (valE kd sz sr nu nm ou pl af be en) := by rw [hmd.2.2.2.2.1 v hvl, mv_set_n nvc]; exact fv
      obtain ⟨qa, xa, ya, fa9, fsa, -⟩ := mv_str_at hsa
      have e3 : rdP t qt br p = .inl (4, nI (p' - (p + 1)), (t.drop (p + 1)).take (p' - (p + 1)), p' + 1) := by simp [rdP, k1, e1]
      have ln : ((t.drop (p + 1)).take (p' - (p + 1))).length = p' - (p + 1) := by rw [List.length_take, List.length_drop]; omega
      show mv_rq l G mX0_readPlain (d + 1) 14 [some (.ref c), some (.ref v), some (.int (nI qt)), some (.int (nI br)), none] [.ref a] h1 _
      refine q_astore dX0_readPlain_14 (Nat.le_of_ble_eq_true rfl) rfl ?_
      show mv_rq l G mX0_readPlain (d + 1) 16 [some (.ref c), some (.ref v), some (.int (nI qt)), some (.int (nI br)), some (.ref a)] [] h1 _
      refine q_aload_n dX0_readPlain_16 rfl ?_
      refine q_iconst (v := 4) dX0_readPlain_17 (by decide) ?_
      refine q_aload dX0_readPlain_18 rfl ?_
      refine q_cV (Y := mJ0_length_8abf5) (As := []) (st := [.int 4, .ref v]) (b := a) (ci := 0) vc_J0_length_8abf5 dX0_readPlain_20 ml_RX0_24 rfl fsa rfl (Nat.le_of_ble_eq_true rfl) rfl (Nat.le_of_ble_eq_true rfl) (sp_lenT hG hsa (by omega)) (fun v h1 hq => ?_) (fun E h1 hq => nomatch hq.1)
      obtain ⟨hv, rfl⟩ := hq
      cases hv
      show mv_rq l G mX0_readPlain (d + 1) 23 [some (.ref c), some (.ref v), some (.int (nI qt)), some (.int (nI br)), some (.ref a)] [.int (nI ((t.drop (p + 1)).take (p' - (p + 1))).length), .int 4, .ref v] h1 _
      refine q_aload dX0_readPlain_23 rfl ?_
      refine q_cV (Y := mX11_become) (As := [.int 4, .int (nI ((t.drop (p + 1)).take (p' - (p + 1))).length), .ref a]) (st := []) (b := v) (ci := 13) vc_X11_become dX0_readPlain_25 ml_RX0_75 rfl fv2 rfl (Nat.le_of_ble_eq_true rfl) rfl (Nat.le_of_ble_eq_true rfl) (sp_become hG fv2 hvb (by omega)) (fun v h1 hq => ?_) (fun E h1 hq => nomatch hq.1)
      obtain ⟨hv, rfl⟩ := hq
      cases hv
      show mv_rq l G mX0_readPlain (d + 1) 28 [some (.ref c), some (.ref v), some (.int (nI qt)), some (.int (nI br)), some (.ref a)] [] (mv_set h1 v (valE 4 (nI ((t.drop (p + 1)).take (p' - (p + 1))).length) a nu nm ou pl af be en)) _
      refine q_goto (tgt := 122) dX0_readPlain_28 (by decide) ?_
      exact q_vret dX0_readPlain_122 rfl (Or.inl ⟨4, nI (p' - (p + 1)), _, p' + 1, a, h1, e3, e2, rfl, hmd, hsa, by rw [ln]⟩)
    · cases hv9
