def mv_okX (l : Launch) (G : mv_G) : Prop := l.stackTraces = false ∧ (∀ U : State, G.2.2.2.2 U → vx_Zq Bundle.tN "UNASSIGNED_STACK" Bundle.steD (fun a => G.2.2.1 ≤ a) U G.2.2.2.1) ∧ (∀ U : State, G.2.2.2.2 U → vx_Zq Bundle.tN "SUPPRESSED_SENTINEL" Bundle.listD (fun a => G.2.2.1 ≤ a) U G.2.2.2.1) ∧ (∃ sa : Nat, ∀ U : State, G.2.2.2.2 U → vk_R RX0 36 "the text is ill" sa U) ∧ (∃ sa : Nat, ∀ U : State, G.2.2.2.2 U → vk_R RX12 83 "the text is no document" sa U) ∧ (∃ sa : Nat, ∀ U : State, G.2.2.2.2 U → vk_R RX12 98 "the text is no query" sa U) ∧ (∃ sa : Nat, ∀ U : State, G.2.2.2.2 U → vk_R RX12 106 "there is no document, or no query" sa U) ∧ (∃ sa : Nat, ∀ U : State, G.2.2.2.2 U → vk_R RX3 32 "a condition is too deep" sa U) ∧ (∃ sa : Nat, ∀ U : State, G.2.2.2.2 U → vk_R RX6 21 "a segment finds too many nodes" sa U) ∧ (∃ sa : Nat, ∀ U : State, G.2.2.2.2 U → vk_R RX3 87 "segments go from too many nodes" sa U)
/-- the small heap behind a throw -/
def thr (h : mv_H) : mv_H := (h.1 + 1, h.2.1 + 6, h.2.2)
abbrev xIA : String := "java/lang/IllegalArgumentException"
theorem dX0_refuse_0 : decode cX0_refuse 0 = .ok (.aload_n 0, 1) := by decide +kernel
theorem dX0_refuse_1 : decode cX0_refuse 1 = .ok (.iload_n 1, 1) := by decide +kernel
theorem dX0_refuse_2 : decode cX0_refuse 2 = .ok (.putfield 21, 3) := by decide +kernel
theorem dX0_refuse_5 : decode cX0_refuse 5 = .ok (.new 34, 3) := by decide +kernel
theorem dX0_refuse_8 : decode cX0_refuse 8 = .ok (.dup, 1) := by decide +kernel
theorem dX0_refuse_9 : decode cX0_refuse 9 = .ok (.ldc 36, 2) := by decide +kernel
theorem dX0_refuse_11 : decode cX0_refuse 11 = .ok (.invokespecial 38, 3) := by decide +kernel
theorem dX0_refuse_14 : decode cX0_refuse 14 = .ok (.athrow, 1) := by decide +kernel
theorem dX0_expect_0 : decode cX0_expect 0 = .ok (.aload_n 0, 1) := by decide +kernel
theorem dX0_expect_1 : decode cX0_expect 1 = .ok (.invokevirtual 41, 3) := by decide +kernel
theorem dX0_expect_4 : decode cX0_expect 4 = .ok (.iload_n 1, 1) := by decide +kernel
theorem dX0_expect_5 : decode cX0_expect 5 = .ok (.if_icmp .eq 11, 3) := by decide +kernel
theorem dX0_expect_8 : decode cX0_expect 8 = .ok (.aload_n 0, 1) := by decide +kernel
theorem dX0_expect_9 : decode cX0_expect 9 = .ok (.aload_n 0, 1) := by decide +kernel
theorem dX0_expect_10 : decode cX0_expect 10 = .ok (.getfield 17, 3) := by decide +kernel
theorem dX0_expect_13 : decode cX0_expect 13 = .ok (.invokevirtual 48, 3) := by decide +kernel
theorem dX0_expect_16 : decode cX0_expect 16 = .ok (.aload_n 0, 1) := by decide +kernel
theorem dX0_expect_17 : decode cX0_expect 17 = .ok (.invokevirtual 45, 3) := by decide +kernel
theorem dX0_expect_20 : decode cX0_expect 20 = .ok (.return_, 1) := by decide +kernel
theorem dX0_expectEnd_0 : decode cX0_expectEnd 0 = .ok (.aload_n 0, 1) := by decide +kernel
theorem dX0_expectEnd_1 : decode cX0_expectEnd 1 = .ok (.getfield 17, 3) := by decide +kernel
theorem dX0_expectEnd_4 : decode cX0_expectEnd 4 = .ok (.aload_n 0, 1) := by decide +kernel
theorem dX0_expectEnd_5 : decode cX0_expectEnd 5 = .ok (.getfield 11, 3) := by decide +kernel
theorem dX0_expectEnd_8 : decode cX0_expectEnd 8 = .ok (.invokevirtual 24, 3) := by decide +kernel
theorem dX0_expectEnd_11 : decode cX0_expectEnd 11 = .ok (.if_icmp .ge 11, 3) := by decide +kernel
theorem dX0_expectEnd_14 : decode cX0_expectEnd 14 = .ok (.aload_n 0, 1) := by decide +kernel
theorem dX0_expectEnd_15 : decode cX0_expectEnd 15 = .ok (.aload_n 0, 1) := by decide +kernel
theorem dX0_expectEnd_16 : decode cX0_expectEnd 16 = .ok (.getfield 17, 3) := by decide +kernel
theorem dX0_expectEnd_19 : decode cX0_expectEnd 19 = .ok (.invokevirtual 48, 3) := by decide +kernel
theorem dX0_expectEnd_22 : decode cX0_expectEnd 22 = .ok (.return_, 1) := by decide +kernel
set_option maxRecDepth 100000 in
set_option maxHeartbeats 4000000 in
theorem sp_refuse {l : Launch} {G : mv_G} {d : Nat} {h : mv_H} (hG : mv_ok G) (hX : mv_okX l G) {c s : Nat} {p ill x : Int32} (fc : h.2.2 c = some (.inr (2, [.ref s, .int p, .int ill]))) (hc : G.2.2.1 ≤ c) (hd : 7 ≤ d) : mv_rq l G mX0_refuse d 0 (mv_in [.ref c, .int x] 2) [] h (fun o h1 => o = .inr (xIA, h.1) ∧ thr (mv_set h c (.inr (2, [.ref s, .int p, .int x]))) = h1) := by
  obtain ⟨d, rfl⟩ : ∃ e, d = e + 1 := ⟨d - 1, by omega⟩
  show mv_rq l G mX0_refuse (d + 1) 0 [some (.ref c), some (.int x)] [] h _
  refine q_aload_n dX0_refuse_0 rfl ?_
  refine q_iload_n dX0_refuse_1 rfl ?_
  refine q_putf (k := 2) (T := TX0) (C0 := RX0) (N := 3) (ci := 2) (ty := .int) tyX0 tyX0_ok nmX0 dX0_refuse_2 fl_RX0_21 rfl uin_RX0 (by decide) rfl rfl (by decide +kernel) rfl rfl hc fc (Nat.le_of_ble_eq_true rfl) ?_
  show mv_rq l G mX0_refuse (d + 1) 5 [some (.ref c), some (.int x)] [] (mv_set h c (.inr (2, [.ref s, .int p, .int x]))) _
  obtain ⟨h_1, eh_1⟩ : ∃ z, z = mv_set h c (.inr (2, [.ref s, .int p, .int x])) := ⟨_, rfl⟩
  rw [← eh_1]
  have fh_1_c : h_1.2.2 c = some (.inr (2, [.ref s, .int p, .int x])) := by rw [eh_1]; exact mv_set_s
  exact q_throw (names := mv_exn) hX.1 (by decide +kernel) (by decide +kernel) cl_RX0_34 ini_IllegalArgumentException (hX.2.2.2.1).choose_spec tx_RX0_38 hX.2.1 hX.2.2.1 rfl rfl dX0_refuse_5 dX0_refuse_8 dX0_refuse_9 dX0_refuse_11 dX0_refuse_14 (by show 2 + 3 < _; omega) (Nat.le_of_ble_eq_true rfl) ⟨by rw [eh_1]; rfl, by rw [eh_1]; rfl⟩
set_option maxRecDepth 100000 in
set_option maxHeartbeats 4000000 in
theorem sp_expect {l : Launch} {G : mv_G} {d : Nat} {h : mv_H} (hG : mv_ok G) (hX : mv_okX l G) {c s : Nat} {t : List Nat} {p : Nat} {ill : Int32} (fc : h.2.2 c = some (curE s p ill)) (hs : mv_str G h s t) {ch : Nat} (hp : p ≤ t.length) (h0 : ch ≠ 0) (h9 : ch < 128) (hc : G.2.2.1 ≤ c) (hd : 8 ≤ d) : mv_rq l G mX0_expect d 0 (mv_in [.ref c, .int (nI ch)] 2) [] h (fun o h1 => (lk t p = ch ∧ o = .inl none ∧ mv_set h c (curE s (p + 1) ill) = h1) ∨ (lk t p ≠ ch ∧ o = .inr (xIA, h.1) ∧ thr (mv_set h c (curE s p (nI p))) = h1)) := by
  obtain ⟨d, rfl⟩ : ∃ e, d = e + 1 := ⟨d - 1, by omega⟩
  obtain ⟨q, x, y, f, fs, fq, h3, h4, h5⟩ := mv_str_at hs
  show mv_rq l G mX0_expect (d + 1) 0 [some (.ref c), some (.int (nI ch))] [] h _
  refine q_aload_n dX0_expect_0 rfl ?_
  refine q_cV (Y := mX0_look) (As := []) (st := []) (b := c) (ci := 2) vc_X0_look dX0_expect_1 ml_RX0_41 rfl fc rfl (Nat.le_of_ble_eq_true rfl) rfl (Nat.le_of_ble_eq_true rfl) (sp_look hG fc hs hp (by omega)) (fun v h1 hq => ?_) (fun E h1 hq => nomatch hq.1)
  obtain ⟨hv, rfl⟩ := hq
  cases hv
  show mv_rq l G mX0_expect (d + 1) 4 [some (.ref c), some (.int (nI ch))] [.int (nI (lk t p))] h _
  refine q_iload_n dX0_expect_4 rfl ?_
  refine q_icmp_eq (tgt := 16) dX0_expect_5 (by decide) (fun c_5 => ?_) (fun c_5 => ?_)
  ·
    have heq : lk t p = ch := (nI_eq (by have := h4 p; omega) (by omega)).mp c_5
    have hlt : p < t.length := by
      rcases Nat.lt_or_ge p t.length with z | z
      · exact z
      · exact absurd (heq.symm.trans (lk_ge z)) h0
    refine q_aload_n dX0_expect_16 rfl ?_
    refine q_cV (Y := mX0_skip) (As := []) (st := []) (b := c) (ci := 2) vc_X0_skip dX0_expect_17 ml_RX0_45 rfl fc rfl (Nat.le_of_ble_eq_true rfl) rfl (Nat.le_of_ble_eq_true rfl) (sp_skip hG fc hs hlt hc (by omega)) (fun v h1 hq => ?_) (fun E h1 hq => nomatch hq.1)
    obtain ⟨hv, rfl⟩ := hq
    cases hv
    show mv_rq l G mX0_expect (d + 1) 20 [some (.ref c), some (.int (nI ch))] [] (mv_set h c (curE s (p + 1) ill)) _
    exact q_vret dX0_expect_20 rfl (Or.inl ⟨heq, rfl, rfl⟩)
  ·
    have hne : lk t p ≠ ch := fun z => c_5 (by rw [z])
    refine q_aload_n dX0_expect_8 rfl ?_
    refine q_aload_n dX0_expect_9 rfl ?_
    refine q_getf (k := 1) (T := TX0) (C0 := RX0) (N := 3) (ci := 2) dX0_expect_10 fl_RX0_17 rfl uin_RX0 (by decide) rfl fc rfl ?_
    refine q_cV (Y := mX0_refuse) (As := [.int (nI p)]) (st := []) (b := c) (ci := 2) vc_X0_refuse dX0_expect_13 ml_RX0_48 rfl fc rfl (Nat.le_of_ble_eq_true rfl) rfl (Nat.le_of_ble_eq_true rfl) (sp_refuse hG hX fc hc (by omega)) (fun v h1 hq => ?_) (fun E h1 hq => by
      obtain ⟨hv, rfl⟩ := hq
      cases hv
      exact q_xout (fun z hz => nomatch hz) (Or.inr ⟨hne, rfl, rfl⟩))
    exact absurd hq.1 (by intro z; cases z)
set_option maxRecDepth 100000 in
set_option maxHeartbeats 4000000 in
theorem sp_expectEnd {l : Launch} {G : mv_G} {d : Nat} {h : mv_H} (hG : mv_ok G) (hX : mv_okX l G) {c s : Nat} {t : List Nat} {p : Nat} {ill : Int32} (fc : h.2.2 c = some (curE s p ill)) (hs : mv_str G h s t) (hp : p ≤ t.length) (hc : G.2.2.1 ≤ c) (hd : 8 ≤ d) : mv_rq l G mX0_expectEnd d 0 (mv_in [.ref c] 1) [] h (fun o h1 => (p = t.length ∧ o = .inl none ∧ h = h1) ∨ (p < t.length ∧ o = .inr (xIA, h.1) ∧ thr (mv_set h c (curE s p (nI p))) = h1)) := by
  obtain ⟨d, rfl⟩ : ∃ e, d = e + 1 := ⟨d - 1, by omega⟩
  obtain ⟨q, x, y, f, fs, fq, h3, h4, h5⟩ := mv_str_at hs
  show mv_rq l G mX0_expectEnd (d + 1) 0 [some (.ref c)] [] h _
  refine q_aload_n dX0_expectEnd_0 rfl ?_
  refine q_getf (k := 1) (T := TX0) (C0 := RX0) (N := 3) (ci := 2) dX0_expectEnd_1 fl_RX0_17 rfl uin_RX0 (by decide) rfl fc rfl ?_
  refine q_aload_n dX0_expectEnd_4 rfl ?_
  refine q_getf (k := 0) (T := TX0) (C0 := RX0) (N := 3) (ci := 2) dX0_expectEnd_5 fl_RX0_11 rfl uin_RX0 (by decide) rfl fc rfl ?_
  refine q_cV (Y := mJ0_length_8abf5) (As := []) (st := [.int (nI p)]) (b := s) (ci := 0) vc_J0_length_8abf5 dX0_expectEnd_8 ml_RX0_24 rfl fs rfl (Nat.le_of_ble_eq_true rfl) rfl (Nat.le_of_ble_eq_true rfl) (sp_lenT hG hs (by omega)) (fun v h1 hq => ?_) (fun E h1 hq => nomatch hq.1)
  obtain ⟨hv, rfl⟩ := hq
  cases hv
  show mv_rq l G mX0_expectEnd (d + 1) 11 [some (.ref c)] [.int (nI t.length), .int (nI p)] h _
  refine q_icmp_ge (tgt := 22) dX0_expectEnd_11 (by decide) (fun c_11 => ?_) (fun c_11 => ?_)
  ·
    have heq : p = t.length := by
      rcases Nat.lt_or_ge p t.length with z | z
      · exact absurd c_11 (nI_ge z (by omega))
      · omega
    exact q_vret dX0_expectEnd_22 rfl (Or.inl ⟨heq, rfl, rfl⟩)
  ·
    have hlt : p < t.length := by
      rcases Nat.lt_or_ge p t.length with z | z
      · exact z
      · exact absurd (nI_le z (by omega)) c_11
    refine q_aload_n dX0_expectEnd_14 rfl ?_
    refine q_aload_n dX0_expectEnd_15 rfl ?_
    refine q_getf (k := 1) (T := TX0) (C0 := RX0) (N := 3) (ci := 2) dX0_expectEnd_16 fl_RX0_17 rfl uin_RX0 (by decide) rfl fc rfl ?_
    refine q_cV (Y := mX0_refuse) (As := [.int (nI p)]) (st := []) (b := c) (ci := 2) vc_X0_refuse dX0_expectEnd_19 ml_RX0_48 rfl fc rfl (Nat.le_of_ble_eq_true rfl) rfl (Nat.le_of_ble_eq_true rfl) (sp_refuse hG hX fc hc (by omega)) (fun v h1 hq => ?_) (fun E h1 hq => by
      obtain ⟨hv, rfl⟩ := hq
      cases hv
      exact q_xout (fun z hz => nomatch hz) (Or.inr ⟨hlt, rfl, rfl⟩))
    exact absurd hq.1 (by intro z; cases z)
