theorem dJ0_coder_7d493_0 : decode cJ0_coder_7d493 0 = .ok (.getstatic 38, 3) := by decide +kernel
theorem dJ0_coder_7d493_3 : decode cJ0_coder_7d493 3 = .ok (.ifCond .eq 10, 3) := by decide +kernel
theorem dJ0_coder_7d493_6 : decode cJ0_coder_7d493 6 = .ok (.aload_n 0, 1) := by decide +kernel
theorem dJ0_coder_7d493_7 : decode cJ0_coder_7d493 7 = .ok (.getfield 15, 3) := by decide +kernel
theorem dJ0_coder_7d493_10 : decode cJ0_coder_7d493 10 = .ok (.goto 4, 3) := by decide +kernel
theorem dJ0_coder_7d493_13 : decode cJ0_coder_7d493 13 = .ok (.iconst 1, 1) := by decide +kernel
theorem dJ0_coder_7d493_14 : decode cJ0_coder_7d493 14 = .ok (.ireturn, 1) := by decide +kernel
theorem dJ0_length_8abf5_0 : decode cJ0_length_8abf5 0 = .ok (.aload_n 0, 1) := by decide +kernel
theorem dJ0_length_8abf5_1 : decode cJ0_length_8abf5 1 = .ok (.getfield 9, 3) := by decide +kernel
theorem dJ0_length_8abf5_4 : decode cJ0_length_8abf5 4 = .ok (.arraylength, 1) := by decide +kernel
theorem dJ0_length_8abf5_5 : decode cJ0_length_8abf5 5 = .ok (.aload_n 0, 1) := by decide +kernel
theorem dJ0_length_8abf5_6 : decode cJ0_length_8abf5 6 = .ok (.invokevirtual 335, 3) := by decide +kernel
theorem dJ0_length_8abf5_9 : decode cJ0_length_8abf5 9 = .ok (.ishr, 1) := by decide +kernel
theorem dJ0_length_8abf5_10 : decode cJ0_length_8abf5 10 = .ok (.ireturn, 1) := by decide +kernel
theorem dJ0_isLatin1_aae02_0 : decode cJ0_isLatin1_aae02 0 = .ok (.getstatic 38, 3) := by decide +kernel
theorem dJ0_isLatin1_aae02_3 : decode cJ0_isLatin1_aae02 3 = .ok (.ifCond .eq 14, 3) := by decide +kernel
theorem dJ0_isLatin1_aae02_6 : decode cJ0_isLatin1_aae02 6 = .ok (.aload_n 0, 1) := by decide +kernel
theorem dJ0_isLatin1_aae02_7 : decode cJ0_isLatin1_aae02 7 = .ok (.getfield 15, 3) := by decide +kernel
theorem dJ0_isLatin1_aae02_10 : decode cJ0_isLatin1_aae02 10 = .ok (.ifCond .ne 7, 3) := by decide +kernel
theorem dJ0_isLatin1_aae02_13 : decode cJ0_isLatin1_aae02 13 = .ok (.iconst 1, 1) := by decide +kernel
theorem dJ0_isLatin1_aae02_14 : decode cJ0_isLatin1_aae02 14 = .ok (.goto 4, 3) := by decide +kernel
theorem dJ0_isLatin1_aae02_17 : decode cJ0_isLatin1_aae02 17 = .ok (.iconst 0, 1) := by decide +kernel
theorem dJ0_isLatin1_aae02_18 : decode cJ0_isLatin1_aae02 18 = .ok (.ireturn, 1) := by decide +kernel
theorem dJ0_charAt_5068e_0 : decode cJ0_charAt_5068e 0 = .ok (.aload_n 0, 1) := by decide +kernel
theorem dJ0_charAt_5068e_1 : decode cJ0_charAt_5068e 1 = .ok (.invokevirtual 492, 3) := by decide +kernel
theorem dJ0_charAt_5068e_4 : decode cJ0_charAt_5068e 4 = .ok (.ifCond .eq 12, 3) := by decide +kernel
theorem dJ0_charAt_5068e_7 : decode cJ0_charAt_5068e 7 = .ok (.aload_n 0, 1) := by decide +kernel
theorem dJ0_charAt_5068e_8 : decode cJ0_charAt_5068e 8 = .ok (.getfield 9, 3) := by decide +kernel
theorem dJ0_charAt_5068e_11 : decode cJ0_charAt_5068e 11 = .ok (.iload_n 1, 1) := by decide +kernel
theorem dJ0_charAt_5068e_12 : decode cJ0_charAt_5068e 12 = .ok (.invokestatic 495, 3) := by decide +kernel
theorem dJ0_charAt_5068e_15 : decode cJ0_charAt_5068e 15 = .ok (.ireturn, 1) := by decide +kernel
theorem dJ0_charAt_5068e_16 : decode cJ0_charAt_5068e 16 = .ok (.aload_n 0, 1) := by decide +kernel
theorem dJ0_charAt_5068e_17 : decode cJ0_charAt_5068e 17 = .ok (.getfield 9, 3) := by decide +kernel
theorem dJ0_charAt_5068e_20 : decode cJ0_charAt_5068e 20 = .ok (.iload_n 1, 1) := by decide +kernel
theorem dJ0_charAt_5068e_21 : decode cJ0_charAt_5068e 21 = .ok (.invokestatic 498, 3) := by decide +kernel
theorem dJ0_charAt_5068e_24 : decode cJ0_charAt_5068e 24 = .ok (.ireturn, 1) := by decide +kernel
theorem dJ1_charAt_3b067_0 : decode cJ1_charAt_3b067 0 = .ok (.iload_n 1, 1) := by decide +kernel
theorem dJ1_charAt_3b067_1 : decode cJ1_charAt_3b067 1 = .ok (.aload_n 0, 1) := by decide +kernel
theorem dJ1_charAt_3b067_2 : decode cJ1_charAt_3b067 2 = .ok (.arraylength, 1) := by decide +kernel
theorem dJ1_charAt_3b067_3 : decode cJ1_charAt_3b067 3 = .ok (.invokestatic 9, 3) := by decide +kernel
theorem dJ1_charAt_3b067_6 : decode cJ1_charAt_3b067 6 = .ok (.aload_n 0, 1) := by decide +kernel
theorem dJ1_charAt_3b067_7 : decode cJ1_charAt_3b067 7 = .ok (.iload_n 1, 1) := by decide +kernel
theorem dJ1_charAt_3b067_8 : decode cJ1_charAt_3b067 8 = .ok (.baload, 1) := by decide +kernel
theorem dJ1_charAt_3b067_9 : decode cJ1_charAt_3b067 9 = .ok (.sipush 255, 3) := by decide +kernel
theorem dJ1_charAt_3b067_12 : decode cJ1_charAt_3b067 12 = .ok (.iand, 1) := by decide +kernel
theorem dJ1_charAt_3b067_13 : decode cJ1_charAt_3b067 13 = .ok (.i2c, 1) := by decide +kernel
theorem dJ1_charAt_3b067_14 : decode cJ1_charAt_3b067 14 = .ok (.ireturn, 1) := by decide +kernel
theorem dJ0_checkIndex_df160_0 : decode cJ0_checkIndex_df160 0 = .ok (.iload_n 0, 1) := by decide +kernel
theorem dJ0_checkIndex_df160_1 : decode cJ0_checkIndex_df160 1 = .ok (.iload_n 1, 1) := by decide +kernel
theorem dJ0_checkIndex_df160_2 : decode cJ0_checkIndex_df160 2 = .ok (.getstatic 1053, 3) := by decide +kernel
theorem dJ0_checkIndex_df160_5 : decode cJ0_checkIndex_df160 5 = .ok (.invokestatic 1059, 3) := by decide +kernel
theorem dJ0_checkIndex_df160_8 : decode cJ0_checkIndex_df160 8 = .ok (.pop, 1) := by decide +kernel
theorem dJ0_checkIndex_df160_9 : decode cJ0_checkIndex_df160 9 = .ok (.return_, 1) := by decide +kernel
theorem dJ3_checkIndex_8e157_0 : decode cJ3_checkIndex_8e157 0 = .ok (.iload_n 0, 1) := by decide +kernel
theorem dJ3_checkIndex_8e157_1 : decode cJ3_checkIndex_8e157 1 = .ok (.ifCond .lt 8, 3) := by decide +kernel
theorem dJ3_checkIndex_8e157_4 : decode cJ3_checkIndex_8e157 4 = .ok (.iload_n 0, 1) := by decide +kernel
theorem dJ3_checkIndex_8e157_5 : decode cJ3_checkIndex_8e157 5 = .ok (.iload_n 1, 1) := by decide +kernel
theorem dJ3_checkIndex_8e157_6 : decode cJ3_checkIndex_8e157 6 = .ok (.if_icmp .lt 10, 3) := by decide +kernel
theorem dJ3_checkIndex_8e157_9 : decode cJ3_checkIndex_8e157 9 = .ok (.aload_n 2, 1) := by decide +kernel
theorem dJ3_checkIndex_8e157_10 : decode cJ3_checkIndex_8e157 10 = .ok (.iload_n 0, 1) := by decide +kernel
theorem dJ3_checkIndex_8e157_11 : decode cJ3_checkIndex_8e157 11 = .ok (.iload_n 1, 1) := by decide +kernel
theorem dJ3_checkIndex_8e157_12 : decode cJ3_checkIndex_8e157 12 = .ok (.invokestatic 95, 3) := by decide +kernel
theorem dJ3_checkIndex_8e157_15 : decode cJ3_checkIndex_8e157 15 = .ok (.athrow, 1) := by decide +kernel
theorem dJ3_checkIndex_8e157_16 : decode cJ3_checkIndex_8e157 16 = .ok (.iload_n 0, 1) := by decide +kernel
theorem dJ3_checkIndex_8e157_17 : decode cJ3_checkIndex_8e157 17 = .ok (.ireturn, 1) := by decide +kernel
set_option maxRecDepth 100000 in
set_option maxHeartbeats 4000000 in
theorem sp_coder {l : Launch} {G : mv_G} {d : Nat} {h : mv_H} (hG : mv_ok G) {a q : Nat} {hs hz : Int32} (fa : h.2.2 a = some (.inr (0, [.ref q, .int 0, .int hs, .int hz]))) (hd : 1 ≤ d) : mv_rq l G mJ0_coder_7d493 d 0 (mv_in [.ref a] 1) [] h (fun o h1 => o = .inl (some (.int 0)) ∧ h = h1) := by
  obtain ⟨d, rfl⟩ : ∃ e, d = e + 1 := ⟨d - 1, by omega⟩
  show mv_rq l G mJ0_coder_7d493 (d + 1) 0 [some (.ref a)] [] h _
  refine q_gets dJ0_coder_7d493_0 fl_RJ0_38 rfl hG.2.1 ?_
  refine q_if_eq (tgt := 13) dJ0_coder_7d493_3 (by decide) (fun z => absurd z (by decide)) (fun _ => ?_)
  refine q_aload_n dJ0_coder_7d493_6 rfl ?_
  refine q_getf (k := 1) (T := TJ0) (C0 := RJ0) (N := 4) (ci := 0) dJ0_coder_7d493_7 fl_RJ0_15 rfl uin_RJ0 (by decide) rfl fa rfl ?_
  refine q_goto (tgt := 14) dJ0_coder_7d493_10 (by decide) ?_
  exact q_iret (ty := .byte) dJ0_coder_7d493_14 rfl rfl ⟨rfl, rfl⟩
set_option maxRecDepth 100000 in
set_option maxHeartbeats 4000000 in
theorem sp_isLatin1 {l : Launch} {G : mv_G} {d : Nat} {h : mv_H} (hG : mv_ok G) {a q : Nat} {hs hz : Int32} (fa : h.2.2 a = some (.inr (0, [.ref q, .int 0, .int hs, .int hz]))) (hd : 1 ≤ d) : mv_rq l G mJ0_isLatin1_aae02 d 0 (mv_in [.ref a] 1) [] h (fun o h1 => o = .inl (some (.int 1)) ∧ h = h1) := by
  obtain ⟨d, rfl⟩ : ∃ e, d = e + 1 := ⟨d - 1, by omega⟩
  show mv_rq l G mJ0_isLatin1_aae02 (d + 1) 0 [some (.ref a)] [] h _
  refine q_gets dJ0_isLatin1_aae02_0 fl_RJ0_38 rfl hG.2.1 ?_
  refine q_if_eq (tgt := 17) dJ0_isLatin1_aae02_3 (by decide) (fun z => absurd z (by decide)) (fun _ => ?_)
  refine q_aload_n dJ0_isLatin1_aae02_6 rfl ?_
  refine q_getf (k := 1) (T := TJ0) (C0 := RJ0) (N := 4) (ci := 0) dJ0_isLatin1_aae02_7 fl_RJ0_15 rfl uin_RJ0 (by decide) rfl fa rfl ?_
  refine q_if_ne (tgt := 17) dJ0_isLatin1_aae02_10 (by decide) (fun z => absurd (by decide) z) (fun _ => ?_)
  refine q_iconst (v := 1) dJ0_isLatin1_aae02_13 (by decide) ?_
  refine q_goto (tgt := 18) dJ0_isLatin1_aae02_14 (by decide) ?_
  exact q_iret (ty := .boolean) dJ0_isLatin1_aae02_18 rfl rfl ⟨rfl, rfl⟩
set_option maxRecDepth 100000 in
set_option maxHeartbeats 4000000 in
theorem sp_length {l : Launch} {G : mv_G} {d : Nat} {h : mv_H} (hG : mv_ok G) {a q : Nat} {hs hz : Int32} (fa : h.2.2 a = some (.inr (0, [.ref q, .int 0, .int hs, .int hz]))) {n : Nat} {f : Nat → Int32} (fq : h.2.2 q = some (.inl (mv_t G 0, n, .inl f))) (hd : 2 ≤ d) : mv_rq l G mJ0_length_8abf5 d 0 (mv_in [.ref a] 1) [] h (fun o h1 => o = .inl (some (.int (Int32.ofNat n))) ∧ h = h1) := by
  obtain ⟨d, rfl⟩ : ∃ e, d = e + 1 := ⟨d - 1, by omega⟩
  show mv_rq l G mJ0_length_8abf5 (d + 1) 0 [some (.ref a)] [] h _
  refine q_aload_n dJ0_length_8abf5_0 rfl ?_
  refine q_getf (k := 0) (T := TJ0) (C0 := RJ0) (N := 4) (ci := 0) dJ0_length_8abf5_1 fl_RJ0_9 rfl uin_RJ0 (by decide) rfl fa rfl ?_
  refine q_alen (t0 := 0) dJ0_length_8abf5_4 (mv_tB hG) fq ?_
  refine q_aload_n dJ0_length_8abf5_5 rfl ?_
  refine q_cV (Y := mJ0_coder_7d493) (As := []) (st := [.int (Int32.ofNat n)]) (b := a) (ci := 0) vc_J0_coder_7d493 dJ0_length_8abf5_6 ml_RJ0_335 rfl fa rfl (Nat.le_of_ble_eq_true rfl) rfl (Nat.le_of_ble_eq_true rfl) (sp_coder hG fa (by omega)) (fun v h1 hq => ?_) (fun E h1 hq => nomatch hq.1)
  obtain ⟨hv, rfl⟩ := hq
  cases hv
  show mv_rq l G mJ0_length_8abf5 (d + 1) 9 [some (.ref a)] [.int 0, .int (Int32.ofNat n)] h _
  refine q_ishr dJ0_length_8abf5_9 ?_
  exact q_iret (ty := .int) dJ0_length_8abf5_10 rfl rfl ⟨by rw [sb_shr0], rfl⟩
set_option maxRecDepth 100000 in
set_option maxHeartbeats 4000000 in
theorem sp_preN {l : Launch} {G : mv_G} {d : Nat} {h : mv_H} (hG : mv_ok G) {i n : Int32} (h1 : ¬ i < 0) (h2 : i < n) (hd : 1 ≤ d) : mv_rq l G mJ3_checkIndex_8e157 d 0 (mv_in [.int i, .int n, .null] 3) [] h (fun o h1 => o = .inl (some (.int i)) ∧ h = h1) := by
  obtain ⟨d, rfl⟩ : ∃ e, d = e + 1 := ⟨d - 1, by omega⟩
  show mv_rq l G mJ3_checkIndex_8e157 (d + 1) 0 [some (.int i), some (.int n), some (.null)] [] h _
  refine q_iload_n dJ3_checkIndex_8e157_0 rfl ?_
  refine q_if_lt (tgt := 9) dJ3_checkIndex_8e157_1 (by decide) (fun z => absurd z (h1)) (fun _ => ?_)
  refine q_iload_n dJ3_checkIndex_8e157_4 rfl ?_
  refine q_iload_n dJ3_checkIndex_8e157_5 rfl ?_
  refine q_icmp_lt (tgt := 16) dJ3_checkIndex_8e157_6 (by decide) (fun _ => ?_) (fun z => absurd (h2) z)
  refine q_iload_n dJ3_checkIndex_8e157_16 rfl ?_
  exact q_iret (ty := .int) dJ3_checkIndex_8e157_17 rfl rfl ⟨rfl, rfl⟩
set_option maxRecDepth 100000 in
set_option maxHeartbeats 4000000 in
theorem sp_preR {l : Launch} {G : mv_G} {d : Nat} {h : mv_H} (hG : mv_ok G) {i n : Int32} {b : Nat} (h1 : ¬ i < 0) (h2 : i < n) (hd : 1 ≤ d) : mv_rq l G mJ3_checkIndex_8e157 d 0 (mv_in [.int i, .int n, .ref b] 3) [] h (fun o h1 => o = .inl (some (.int i)) ∧ h = h1) := by
  obtain ⟨d, rfl⟩ : ∃ e, d = e + 1 := ⟨d - 1, by omega⟩
  show mv_rq l G mJ3_checkIndex_8e157 (d + 1) 0 [some (.int i), some (.int n), some (.ref b)] [] h _
  refine q_iload_n dJ3_checkIndex_8e157_0 rfl ?_
  refine q_if_lt (tgt := 9) dJ3_checkIndex_8e157_1 (by decide) (fun z => absurd z (h1)) (fun _ => ?_)
  refine q_iload_n dJ3_checkIndex_8e157_4 rfl ?_
  refine q_iload_n dJ3_checkIndex_8e157_5 rfl ?_
  refine q_icmp_lt (tgt := 16) dJ3_checkIndex_8e157_6 (by decide) (fun _ => ?_) (fun z => absurd (h2) z)
  refine q_iload_n dJ3_checkIndex_8e157_16 rfl ?_
  exact q_iret (ty := .int) dJ3_checkIndex_8e157_17 rfl rfl ⟨rfl, rfl⟩
set_option maxRecDepth 100000 in
set_option maxHeartbeats 4000000 in
theorem sp_chk {l : Launch} {G : mv_G} {d : Nat} {h : mv_H} (hG : mv_ok G) {i n : Int32} (h1 : ¬ i < 0) (h2 : i < n) (hd : 2 ≤ d) : mv_rq l G mJ0_checkIndex_df160 d 0 (mv_in [.int i, .int n] 2) [] h (fun o h1 => o = .inl none ∧ h = h1) := by
  obtain ⟨d, rfl⟩ : ∃ e, d = e + 1 := ⟨d - 1, by omega⟩
  obtain ⟨v, hv, hZ⟩ := hG.2.2
  rcases hv with rfl | ⟨b, rfl⟩
  ·
    show mv_rq l G mJ0_checkIndex_df160 (d + 1) 0 [some (.int i), some (.int n)] [] h _
    refine q_iload_n dJ0_checkIndex_df160_0 rfl ?_
    refine q_iload_n dJ0_checkIndex_df160_1 rfl ?_
    refine q_gets dJ0_checkIndex_df160_2 fl_RJ0_1053 rfl hZ ?_
    refine q_cS (Y := mJ3_checkIndex_8e157) (As := [.int i, .int n, .null]) (st := []) sc_J3_checkIndex_8e157 dJ0_checkIndex_df160_5 ml_RJ0_1059 rfl (Nat.le_of_ble_eq_true rfl) rfl (Nat.le_of_ble_eq_true rfl) (sp_preN hG h1 h2 (by omega)) (fun v h1 hq => ?_) (fun E h1 hq => nomatch hq.1)
    obtain ⟨hv, rfl⟩ := hq
    cases hv
    show mv_rq l G mJ0_checkIndex_df160 (d + 1) 8 [some (.int i), some (.int n)] [.int i] h _
    refine q_pop dJ0_checkIndex_df160_8 rfl ?_
    exact q_vret dJ0_checkIndex_df160_9 rfl ⟨rfl, rfl⟩
  ·
    show mv_rq l G mJ0_checkIndex_df160 (d + 1) 0 [some (.int i), some (.int n)] [] h _
    refine q_iload_n dJ0_checkIndex_df160_0 rfl ?_
    refine q_iload_n dJ0_checkIndex_df160_1 rfl ?_
    refine q_gets dJ0_checkIndex_df160_2 fl_RJ0_1053 rfl hZ ?_
    refine q_cS (Y := mJ3_checkIndex_8e157) (As := [.int i, .int n, .ref b]) (st := []) sc_J3_checkIndex_8e157 dJ0_checkIndex_df160_5 ml_RJ0_1059 rfl (Nat.le_of_ble_eq_true rfl) rfl (Nat.le_of_ble_eq_true rfl) (sp_preR hG h1 h2 (by omega)) (fun v h1 hq => ?_) (fun E h1 hq => nomatch hq.1)
    obtain ⟨hv, rfl⟩ := hq
    cases hv
    show mv_rq l G mJ0_checkIndex_df160 (d + 1) 8 [some (.int i), some (.int n)] [.int i] h _
    refine q_pop dJ0_checkIndex_df160_8 rfl ?_
    exact q_vret dJ0_checkIndex_df160_9 rfl ⟨rfl, rfl⟩
set_option maxRecDepth 100000 in
set_option maxHeartbeats 4000000 in
theorem sp_l1at {l : Launch} {G : mv_G} {d : Nat} {h : mv_H} (hG : mv_ok G) {q : Nat} {i : Int32} {n : Nat} {f : Nat → Int32} (fq : h.2.2 q = some (.inl (mv_t G 0, n, .inl f))) (hi : vp_in i n) (hn : n < 2 ^ 31) (hd : 3 ≤ d) : mv_rq l G mJ1_charAt_3b067 d 0 (mv_in [.ref q, .int i] 2) [] h (fun o h1 => o = .inl (some (.int ((f i.toNatClampNeg &&& 255).toUInt32 % 65536).toInt32)) ∧ h = h1) := by
  obtain ⟨d, rfl⟩ : ∃ e, d = e + 1 := ⟨d - 1, by omega⟩
  have i1 : ¬ i < 0 := fun z => hi (Or.inl z)
  have i2 : i < Int32.ofNat n := by
    obtain ⟨j, hj, rfl⟩ := vp_in_of hi hn
    exact nI_lt hj hn
  show mv_rq l G mJ1_charAt_3b067 (d + 1) 0 [some (.ref q), some (.int i)] [] h _
  refine q_iload_n dJ1_charAt_3b067_0 rfl ?_
  refine q_aload_n dJ1_charAt_3b067_1 rfl ?_
  refine q_alen (t0 := 0) dJ1_charAt_3b067_2 (mv_tB hG) fq ?_
  refine q_cS (Y := mJ0_checkIndex_df160) (As := [.int i, .int (Int32.ofNat n)]) (st := []) sc_J0_checkIndex_df160 dJ1_charAt_3b067_3 ml_RJ1_9 rfl (Nat.le_of_ble_eq_true rfl) rfl (Nat.le_of_ble_eq_true rfl) (sp_chk hG i1 i2 (by omega)) (fun v h1 hq => ?_) (fun E h1 hq => nomatch hq.1)
  obtain ⟨hv, rfl⟩ := hq
  cases hv
  show mv_rq l G mJ1_charAt_3b067 (d + 1) 6 [some (.ref q), some (.int i)] [] h _
  refine q_aload_n dJ1_charAt_3b067_6 rfl ?_
  refine q_iload_n dJ1_charAt_3b067_7 rfl ?_
  refine q_bald (t0 := 0) dJ1_charAt_3b067_8 (mv_tB hG) fq hi ?_
  refine q_sipush (v := 255) dJ1_charAt_3b067_9 (by decide) ?_
  refine q_iand dJ1_charAt_3b067_12 ?_
  refine q_i2c dJ1_charAt_3b067_13 ?_
  exact q_iret (ty := .char) dJ1_charAt_3b067_14 rfl (pk_nc _) ⟨rfl, rfl⟩
set_option maxRecDepth 100000 in
set_option maxHeartbeats 4000000 in
theorem sp_charAt {l : Launch} {G : mv_G} {d : Nat} {h : mv_H} (hG : mv_ok G) {a q : Nat} {hs hz : Int32} (fa : h.2.2 a = some (.inr (0, [.ref q, .int 0, .int hs, .int hz]))) {i : Int32} {n : Nat} {f : Nat → Int32} (fq : h.2.2 q = some (.inl (mv_t G 0, n, .inl f))) (hi : vp_in i n) (hn : n < 2 ^ 31) (hd : 4 ≤ d) : mv_rq l G mJ0_charAt_5068e d 0 (mv_in [.ref a, .int i] 2) [] h (fun o h1 => o = .inl (some (.int ((f i.toNatClampNeg &&& 255).toUInt32 % 65536).toInt32)) ∧ h = h1) := by
  obtain ⟨d, rfl⟩ : ∃ e, d = e + 1 := ⟨d - 1, by omega⟩
  show mv_rq l G mJ0_charAt_5068e (d + 1) 0 [some (.ref a), some (.int i)] [] h _
  refine q_aload_n dJ0_charAt_5068e_0 rfl ?_
  refine q_cV (Y := mJ0_isLatin1_aae02) (As := []) (st := []) (b := a) (ci := 0) vc_J0_isLatin1_aae02 dJ0_charAt_5068e_1 ml_RJ0_492 rfl fa rfl (Nat.le_of_ble_eq_true rfl) rfl (Nat.le_of_ble_eq_true rfl) (sp_isLatin1 hG fa (by omega)) (fun v h1 hq => ?_) (fun E h1 hq => nomatch hq.1)
  obtain ⟨hv, rfl⟩ := hq
  cases hv
  show mv_rq l G mJ0_charAt_5068e (d + 1) 4 [some (.ref a), some (.int i)] [.int 1] h _
  refine q_if_eq (tgt := 16) dJ0_charAt_5068e_4 (by decide) (fun z => absurd z (by decide)) (fun _ => ?_)
  refine q_aload_n dJ0_charAt_5068e_7 rfl ?_
  refine q_getf (k := 0) (T := TJ0) (C0 := RJ0) (N := 4) (ci := 0) dJ0_charAt_5068e_8 fl_RJ0_9 rfl uin_RJ0 (by decide) rfl fa rfl ?_
  refine q_iload_n dJ0_charAt_5068e_11 rfl ?_
  refine q_cS (Y := mJ1_charAt_3b067) (As := [.ref q, .int i]) (st := []) sc_J1_charAt_3b067 dJ0_charAt_5068e_12 ml_RJ0_495 rfl (Nat.le_of_ble_eq_true rfl) rfl (Nat.le_of_ble_eq_true rfl) (sp_l1at hG fq hi hn (by omega)) (fun v h1 hq => ?_) (fun E h1 hq => nomatch hq.1)
  obtain ⟨hv, rfl⟩ := hq
  cases hv
  show mv_rq l G mJ0_charAt_5068e (d + 1) 15 [some (.ref a), some (.int i)] [.int ((f i.toNatClampNeg &&& 255).toUInt32 % 65536).toInt32] h _
  exact q_iret (ty := .char) dJ0_charAt_5068e_15 rfl (pk_nc _) ⟨rfl, rfl⟩
