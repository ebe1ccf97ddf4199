theorem dX0_look_0 : decode cX0_look 0 = .ok (.aload_n 0, 1) := by decide +kernel
theorem dX0_look_1 : decode cX0_look 1 = .ok (.getfield 17, 3) := by decide +kernel
theorem dX0_look_4 : decode cX0_look 4 = .ok (.aload_n 0, 1) := by decide +kernel
theorem dX0_look_5 : decode cX0_look 5 = .ok (.getfield 11, 3) := by decide +kernel
theorem dX0_look_8 : decode cX0_look 8 = .ok (.invokevirtual 24, 3) := by decide +kernel
theorem dX0_look_11 : decode cX0_look 11 = .ok (.if_icmp .ge 17, 3) := by decide +kernel
theorem dX0_look_14 : decode cX0_look 14 = .ok (.aload_n 0, 1) := by decide +kernel
theorem dX0_look_15 : decode cX0_look 15 = .ok (.getfield 11, 3) := by decide +kernel
theorem dX0_look_18 : decode cX0_look 18 = .ok (.aload_n 0, 1) := by decide +kernel
theorem dX0_look_19 : decode cX0_look 19 = .ok (.getfield 17, 3) := by decide +kernel
theorem dX0_look_22 : decode cX0_look 22 = .ok (.invokevirtual 30, 3) := by decide +kernel
theorem dX0_look_25 : decode cX0_look 25 = .ok (.goto 4, 3) := by decide +kernel
theorem dX0_look_28 : decode cX0_look 28 = .ok (.iconst 0, 1) := by decide +kernel
theorem dX0_look_29 : decode cX0_look 29 = .ok (.ireturn, 1) := by decide +kernel
theorem dX0_skip_0 : decode cX0_skip 0 = .ok (.aload_n 0, 1) := by decide +kernel
theorem dX0_skip_1 : decode cX0_skip 1 = .ok (.getfield 17, 3) := by decide +kernel
theorem dX0_skip_4 : decode cX0_skip 4 = .ok (.aload_n 0, 1) := by decide +kernel
theorem dX0_skip_5 : decode cX0_skip 5 = .ok (.getfield 11, 3) := by decide +kernel
theorem dX0_skip_8 : decode cX0_skip 8 = .ok (.invokevirtual 24, 3) := by decide +kernel
theorem dX0_skip_11 : decode cX0_skip 11 = .ok (.if_icmp .ge 13, 3) := by decide +kernel
theorem dX0_skip_14 : decode cX0_skip 14 = .ok (.aload_n 0, 1) := by decide +kernel
theorem dX0_skip_15 : decode cX0_skip 15 = .ok (.dup, 1) := by decide +kernel
theorem dX0_skip_16 : decode cX0_skip 16 = .ok (.getfield 17, 3) := by decide +kernel
theorem dX0_skip_19 : decode cX0_skip 19 = .ok (.iconst 1, 1) := by decide +kernel
theorem dX0_skip_20 : decode cX0_skip 20 = .ok (.iadd, 1) := by decide +kernel
theorem dX0_skip_21 : decode cX0_skip 21 = .ok (.putfield 17, 3) := by decide +kernel
theorem dX0_skip_24 : decode cX0_skip 24 = .ok (.return_, 1) := by decide +kernel
theorem dX0_restart_0 : decode cX0_restart 0 = .ok (.aload_n 0, 1) := by decide +kernel
theorem dX0_restart_1 : decode cX0_restart 1 = .ok (.aload_n 1, 1) := by decide +kernel
theorem dX0_restart_2 : decode cX0_restart 2 = .ok (.putfield 11, 3) := by decide +kernel
theorem dX0_restart_5 : decode cX0_restart 5 = .ok (.aload_n 0, 1) := by decide +kernel
theorem dX0_restart_6 : decode cX0_restart 6 = .ok (.iconst 0, 1) := by decide +kernel
theorem dX0_restart_7 : decode cX0_restart 7 = .ok (.putfield 17, 3) := by decide +kernel
theorem dX0_restart_10 : decode cX0_restart 10 = .ok (.aload_n 0, 1) := by decide +kernel
theorem dX0_restart_11 : decode cX0_restart 11 = .ok (.iconst (-1), 1) := by decide +kernel
theorem dX0_restart_12 : decode cX0_restart 12 = .ok (.putfield 21, 3) := by decide +kernel
theorem dX0_restart_15 : decode cX0_restart 15 = .ok (.return_, 1) := by decide +kernel
theorem dX0_seesDigit_0 : decode cX0_seesDigit 0 = .ok (.aload_n 0, 1) := by decide +kernel
theorem dX0_seesDigit_1 : decode cX0_seesDigit 1 = .ok (.invokevirtual 41, 3) := by decide +kernel
theorem dX0_seesDigit_4 : decode cX0_seesDigit 4 = .ok (.bipush 48, 2) := by decide +kernel
theorem dX0_seesDigit_6 : decode cX0_seesDigit 6 = .ok (.if_icmp .lt 16, 3) := by decide +kernel
theorem dX0_seesDigit_9 : decode cX0_seesDigit 9 = .ok (.aload_n 0, 1) := by decide +kernel
theorem dX0_seesDigit_10 : decode cX0_seesDigit 10 = .ok (.invokevirtual 41, 3) := by decide +kernel
theorem dX0_seesDigit_13 : decode cX0_seesDigit 13 = .ok (.bipush 57, 2) := by decide +kernel
theorem dX0_seesDigit_15 : decode cX0_seesDigit 15 = .ok (.if_icmp .gt 7, 3) := by decide +kernel
theorem dX0_seesDigit_18 : decode cX0_seesDigit 18 = .ok (.iconst 1, 1) := by decide +kernel
theorem dX0_seesDigit_19 : decode cX0_seesDigit 19 = .ok (.goto 4, 3) := by decide +kernel
theorem dX0_seesDigit_22 : decode cX0_seesDigit 22 = .ok (.iconst 0, 1) := by decide +kernel
theorem dX0_seesDigit_23 : decode cX0_seesDigit 23 = .ok (.ireturn, 1) := by decide +kernel
theorem dX0_seesLetter_0 : decode cX0_seesLetter 0 = .ok (.aload_n 0, 1) := by decide +kernel
theorem dX0_seesLetter_1 : decode cX0_seesLetter 1 = .ok (.invokevirtual 41, 3) := by decide +kernel
theorem dX0_seesLetter_4 : decode cX0_seesLetter 4 = .ok (.bipush 97, 2) := by decide +kernel
theorem dX0_seesLetter_6 : decode cX0_seesLetter 6 = .ok (.if_icmp .lt 16, 3) := by decide +kernel
theorem dX0_seesLetter_9 : decode cX0_seesLetter 9 = .ok (.aload_n 0, 1) := by decide +kernel
theorem dX0_seesLetter_10 : decode cX0_seesLetter 10 = .ok (.invokevirtual 41, 3) := by decide +kernel
theorem dX0_seesLetter_13 : decode cX0_seesLetter 13 = .ok (.bipush 122, 2) := by decide +kernel
theorem dX0_seesLetter_15 : decode cX0_seesLetter 15 = .ok (.if_icmp .gt 7, 3) := by decide +kernel
theorem dX0_seesLetter_18 : decode cX0_seesLetter 18 = .ok (.iconst 1, 1) := by decide +kernel
theorem dX0_seesLetter_19 : decode cX0_seesLetter 19 = .ok (.goto 4, 3) := by decide +kernel
theorem dX0_seesLetter_22 : decode cX0_seesLetter 22 = .ok (.iconst 0, 1) := by decide +kernel
theorem dX0_seesLetter_23 : decode cX0_seesLetter 23 = .ok (.ireturn, 1) := by decide +kernel
theorem dX0_seesNumber_0 : decode cX0_seesNumber 0 = .ok (.aload_n 0, 1) := by decide +kernel
theorem dX0_seesNumber_1 : decode cX0_seesNumber 1 = .ok (.invokevirtual 56, 3) := by decide +kernel
theorem dX0_seesNumber_4 : decode cX0_seesNumber 4 = .ok (.ifCond .ne 12, 3) := by decide +kernel
theorem dX0_seesNumber_7 : decode cX0_seesNumber 7 = .ok (.aload_n 0, 1) := by decide +kernel
theorem dX0_seesNumber_8 : decode cX0_seesNumber 8 = .ok (.invokevirtual 41, 3) := by decide +kernel
theorem dX0_seesNumber_11 : decode cX0_seesNumber 11 = .ok (.bipush 45, 2) := by decide +kernel
theorem dX0_seesNumber_13 : decode cX0_seesNumber 13 = .ok (.if_icmp .ne 7, 3) := by decide +kernel
theorem dX0_seesNumber_16 : decode cX0_seesNumber 16 = .ok (.iconst 1, 1) := by decide +kernel
theorem dX0_seesNumber_17 : decode cX0_seesNumber 17 = .ok (.goto 4, 3) := by decide +kernel
theorem dX0_seesNumber_20 : decode cX0_seesNumber 20 = .ok (.iconst 0, 1) := by decide +kernel
theorem dX0_seesNumber_21 : decode cX0_seesNumber 21 = .ok (.ireturn, 1) := by decide +kernel
theorem dX0_passes_0 : decode cX0_passes 0 = .ok (.aload_n 0, 1) := by decide +kernel
theorem dX0_passes_1 : decode cX0_passes 1 = .ok (.invokevirtual 41, 3) := by decide +kernel
theorem dX0_passes_4 : decode cX0_passes 4 = .ok (.iload_n 1, 1) := by decide +kernel
theorem dX0_passes_5 : decode cX0_passes 5 = .ok (.if_icmp .eq 5, 3) := by decide +kernel
theorem dX0_passes_8 : decode cX0_passes 8 = .ok (.iconst 0, 1) := by decide +kernel
theorem dX0_passes_9 : decode cX0_passes 9 = .ok (.ireturn, 1) := by decide +kernel
theorem dX0_passes_10 : decode cX0_passes 10 = .ok (.aload_n 0, 1) := by decide +kernel
theorem dX0_passes_11 : decode cX0_passes 11 = .ok (.invokevirtual 45, 3) := by decide +kernel
theorem dX0_passes_14 : decode cX0_passes 14 = .ok (.iconst 1, 1) := by decide +kernel
theorem dX0_passes_15 : decode cX0_passes 15 = .ok (.ireturn, 1) := by decide +kernel
theorem dX0_skipBlanks_0 : decode cX0_skipBlanks 0 = .ok (.iconst 0, 1) := by decide +kernel
theorem dX0_skipBlanks_1 : decode cX0_skipBlanks 1 = .ok (.istore_n 1, 1) := by decide +kernel
theorem dX0_skipBlanks_2 : decode cX0_skipBlanks 2 = .ok (.iload_n 1, 1) := by decide +kernel
theorem dX0_skipBlanks_3 : decode cX0_skipBlanks 3 = .ok (.sipush 160, 3) := by decide +kernel
theorem dX0_skipBlanks_6 : decode cX0_skipBlanks 6 = .ok (.if_icmp .ge 22, 3) := by decide +kernel
theorem dX0_skipBlanks_9 : decode cX0_skipBlanks 9 = .ok (.aload_n 0, 1) := by decide +kernel
theorem dX0_skipBlanks_10 : decode cX0_skipBlanks 10 = .ok (.invokevirtual 41, 3) := by decide +kernel
theorem dX0_skipBlanks_13 : decode cX0_skipBlanks 13 = .ok (.bipush 32, 2) := by decide +kernel
theorem dX0_skipBlanks_15 : decode cX0_skipBlanks 15 = .ok (.if_icmp .ne 13, 3) := by decide +kernel
theorem dX0_skipBlanks_18 : decode cX0_skipBlanks 18 = .ok (.aload_n 0, 1) := by decide +kernel
theorem dX0_skipBlanks_19 : decode cX0_skipBlanks 19 = .ok (.invokevirtual 45, 3) := by decide +kernel
theorem dX0_skipBlanks_22 : decode cX0_skipBlanks 22 = .ok (.iinc 1 1, 3) := by decide +kernel
theorem dX0_skipBlanks_25 : decode cX0_skipBlanks 25 = .ok (.goto (-23), 3) := by decide +kernel
theorem dX0_skipBlanks_28 : decode cX0_skipBlanks 28 = .ok (.return_, 1) := by decide +kernel
/-- the letter at a place, 0 behind the end -/
def lk (t : List Nat) (p : Nat) : Nat := t.getD p 0
theorem lk_ge {t : List Nat} {p : Nat} (hp : t.length ≤ p) : lk t p = 0 := by
  unfold lk
  rw [List.getD_eq_getElem?_getD, List.getElem?_eq_none hp]
  rfl
theorem l1c : ∀ c, c < 128 → ((nI c &&& 255).toUInt32 % 65536).toInt32 = nI c := by decide +kernel
theorem l1n : ∀ c, c < 128 → narrow .char (.int (nI c)) = .int (nI c) := fun c hc => (pk_charN (q := c) (by omega)).1
def mv_tag (e : va_E) : Nat := match e with
  | .inl _ => 1000
  | .inr o => o.1
theorem mv_ne {h : mv_H} {a b : Nat} {e e' : va_E} (ha : h.2.2 a = some e) (hb : h.2.2 b = some e') (hne : mv_tag e ≠ mv_tag e') : b ≠ a := fun z => hne (by rw [z, ha] at hb; rw [Option.some.inj hb])
abbrev curE (s : Nat) (p : Nat) (ill : Int32) : va_E := .inr (2, [.ref s, .int (nI p), .int ill])
theorem mv_set_set {h : mv_H} {a : Nat} {e e' : va_E} : mv_set (mv_set h a e) a e' = mv_set h a e' := by
  unfold mv_set
  refine congrArg (Prod.mk h.1) (congrArg (Prod.mk h.2.1) (funext fun b => ?_))
  by_cases hb : b = a
  · simp [hb]
  · simp [hb]
theorem mv_set_self {h : mv_H} {a : Nat} {e : va_E} (he : h.2.2 a = some e) : mv_set h a e = h := by
  unfold mv_set
  refine congrArg (Prod.mk h.1) (congrArg (Prod.mk h.2.1) (funext fun b => ?_))
  by_cases hb : b = a
  · simp [hb, he]
  · simp [hb]
theorem mv_str_at {G : mv_G} {h : mv_H} {a : Nat} {t : List Nat} (hs : mv_str G h a t) : ∃ (q : Nat) (x y : Int32) (f : Nat → Int32), h.2.2 a = some (.inr (0, [.ref q, .int 0, .int x, .int y])) ∧ h.2.2 q = some (.inl (mv_t G 0, t.length, .inl f)) ∧ (∀ j, j < t.length → f j = nI (lk t j)) ∧ (∀ j, lk t j < 128) ∧ t.length < 65536 := by
  obtain ⟨q, x, y, f, h1, h2, h3, h4, h5⟩ := hs
  refine ⟨q, x, y, f, h1, h2, h3, fun j => ?_, h5⟩
  by_cases hj : j < t.length
  · exact h4 j hj
  · rw [lk_ge (Nat.le_of_not_lt hj)]
    decide
/-- charAt, by the text -/
theorem sp_charT {l : Launch} {G : mv_G} {d : Nat} {h : mv_H} (hG : mv_ok G) {a : Nat} {t : List Nat} (hs : mv_str G h a t) {p : Nat} (hp : p < t.length) (hd : 4 ≤ d) : mv_rq l G mJ0_charAt_5068e d 0 (mv_in [.ref a, .int (nI p)] 2) [] h (fun o h1 => o = .inl (some (.int (nI (lk t p)))) ∧ h = h1) := by
  obtain ⟨q, x, y, f, h1, h2, h3, h4, h5⟩ := mv_str_at hs
  refine (sp_charAt hG h1 h2 (vp_in_nI hp (by omega)) (by omega) hd).mono fun o h' hq => ?_
  rw [nI_clamp (show p < 2 ^ 31 by omega), h3 p hp, l1c _ (h4 p)] at hq
  exact hq
theorem sp_lenT {l : Launch} {G : mv_G} {d : Nat} {h : mv_H} (hG : mv_ok G) {a : Nat} {t : List Nat} (hs : mv_str G h a t) (hd : 2 ≤ d) : mv_rq l G mJ0_length_8abf5 d 0 (mv_in [.ref a] 1) [] h (fun o h1 => o = .inl (some (.int (nI t.length))) ∧ h = h1) := by
  obtain ⟨q, x, y, f, h1, h2, h3, h4, h5⟩ := mv_str_at hs
  exact sp_length hG h1 h2 hd
set_option maxRecDepth 100000 in
set_option maxHeartbeats 4000000 in
theorem sp_look {l : Launch} {G : mv_G} {d : Nat} {h : mv_H} (hG : mv_ok G) {c s : Nat} {t : List Nat} {p : Nat} {ill : Int32} (fc : h.2.2 c = some (curE s p ill)) (hs : mv_str G h s t) (hp : p ≤ t.length) (hd : 5 ≤ d) : mv_rq l G mX0_look d 0 (mv_in [.ref c] 1) [] h (fun o h1 => o = .inl (some (.int (nI (lk t p)))) ∧ h = h1) := by
  obtain ⟨d, rfl⟩ : ∃ e, d = e + 1 := ⟨d - 1, by omega⟩
  obtain ⟨q, x, y, f, fs, fq, h3, h4, h5⟩ := mv_str_at hs
  show mv_rq l G mX0_look (d + 1) 0 [some (.ref c)] [] h _
  refine q_aload_n dX0_look_0 rfl ?_
  refine q_getf (k := 1) (T := TX0) (C0 := RX0) (N := 3) (ci := 2) dX0_look_1 fl_RX0_17 rfl uin_RX0 (by decide) rfl fc rfl ?_
  refine q_aload_n dX0_look_4 rfl ?_
  refine q_getf (k := 0) (T := TX0) (C0 := RX0) (N := 3) (ci := 2) dX0_look_5 fl_RX0_11 rfl uin_RX0 (by decide) rfl fc rfl ?_
  refine q_cV (Y := mJ0_length_8abf5) (As := []) (st := [.int (nI p)]) (b := s) (ci := 0) vc_J0_length_8abf5 dX0_look_8 ml_RX0_24 rfl fs rfl (Nat.le_of_ble_eq_true rfl) rfl (Nat.le_of_ble_eq_true rfl) (sp_lenT hG hs (by omega)) (fun v h1 hq => ?_) (fun E h1 hq => nomatch hq.1)
  obtain ⟨hv, rfl⟩ := hq
  cases hv
  show mv_rq l G mX0_look (d + 1) 11 [some (.ref c)] [.int (nI t.length), .int (nI p)] h _
  refine q_icmp_ge (tgt := 28) dX0_look_11 (by decide) (fun c_11 => ?_) (fun c_11 => ?_)
  ·
    have e0 : lk t p = 0 := lk_ge (by
      rcases Nat.lt_or_ge p t.length with z | z
      · exact absurd c_11 (nI_ge z (by omega))
      · exact z)
    rw [e0]
    refine q_iconst (v := 0) dX0_look_28 (by decide) ?_
    exact q_iret (ty := .char) dX0_look_29 rfl (by first | exact l1n _ (h4 _) | rfl) ⟨rfl, rfl⟩
  ·
    have hlt : p < t.length := by
      rcases Nat.lt_or_ge p t.length with z | z
      · exact z
      · exact absurd (nI_le z (by omega)) c_11
    refine q_aload_n dX0_look_14 rfl ?_
    refine q_getf (k := 0) (T := TX0) (C0 := RX0) (N := 3) (ci := 2) dX0_look_15 fl_RX0_11 rfl uin_RX0 (by decide) rfl fc rfl ?_
    refine q_aload_n dX0_look_18 rfl ?_
    refine q_getf (k := 1) (T := TX0) (C0 := RX0) (N := 3) (ci := 2) dX0_look_19 fl_RX0_17 rfl uin_RX0 (by decide) rfl fc rfl ?_
    refine q_cV (Y := mJ0_charAt_5068e) (As := [.int (nI p)]) (st := []) (b := s) (ci := 0) vc_J0_charAt_5068e dX0_look_22 ml_RX0_30 rfl fs rfl (Nat.le_of_ble_eq_true rfl) rfl (Nat.le_of_ble_eq_true rfl) (sp_charT hG hs hlt (by omega)) (fun v h1 hq => ?_) (fun E h1 hq => nomatch hq.1)
    obtain ⟨hv, rfl⟩ := hq
    cases hv
    show mv_rq l G mX0_look (d + 1) 25 [some (.ref c)] [.int (nI (lk t p))] h _
    refine q_goto (tgt := 29) dX0_look_25 (by decide) ?_
    exact q_iret (ty := .char) dX0_look_29 rfl (by first | exact l1n _ (h4 _) | rfl) ⟨rfl, rfl⟩
set_option maxRecDepth 100000 in
set_option maxHeartbeats 4000000 in
theorem sp_skip {l : Launch} {G : mv_G} {d : Nat} {h : mv_H} (hG : mv_ok G) {c s : Nat} {t : List Nat} {p : Nat} {ill : Int32} (fc : h.2.2 c = some (curE s p ill)) (hs : mv_str G h s t) (hp : p < t.length) (hc : G.2.2.1 ≤ c) (hd : 5 ≤ d) : mv_rq l G mX0_skip d 0 (mv_in [.ref c] 1) [] h (fun o h1 => o = .inl none ∧ mv_set h c (curE s (p + 1) ill) = h1) := by
  obtain ⟨d, rfl⟩ : ∃ e, d = e + 1 := ⟨d - 1, by omega⟩
  obtain ⟨q, x, y, f, fs, fq, h3, h4, h5⟩ := mv_str_at hs
  show mv_rq l G mX0_skip (d + 1) 0 [some (.ref c)] [] h _
  refine q_aload_n dX0_skip_0 rfl ?_
  refine q_getf (k := 1) (T := TX0) (C0 := RX0) (N := 3) (ci := 2) dX0_skip_1 fl_RX0_17 rfl uin_RX0 (by decide) rfl fc rfl ?_
  refine q_aload_n dX0_skip_4 rfl ?_
  refine q_getf (k := 0) (T := TX0) (C0 := RX0) (N := 3) (ci := 2) dX0_skip_5 fl_RX0_11 rfl uin_RX0 (by decide) rfl fc rfl ?_
  refine q_cV (Y := mJ0_length_8abf5) (As := []) (st := [.int (nI p)]) (b := s) (ci := 0) vc_J0_length_8abf5 dX0_skip_8 ml_RX0_24 rfl fs rfl (Nat.le_of_ble_eq_true rfl) rfl (Nat.le_of_ble_eq_true rfl) (sp_lenT hG hs (by omega)) (fun v h1 hq => ?_) (fun E h1 hq => nomatch hq.1)
  obtain ⟨hv, rfl⟩ := hq
  cases hv
  show mv_rq l G mX0_skip (d + 1) 11 [some (.ref c)] [.int (nI t.length), .int (nI p)] h _
  refine q_icmp_ge (tgt := 24) dX0_skip_11 (by decide) (fun z => absurd z (nI_ge hp (by omega))) (fun _ => ?_)
  refine q_aload_n dX0_skip_14 rfl ?_
  refine q_dup dX0_skip_15 rfl ?_
  refine q_getf (k := 1) (T := TX0) (C0 := RX0) (N := 3) (ci := 2) dX0_skip_16 fl_RX0_17 rfl uin_RX0 (by decide) rfl fc rfl ?_
  refine q_iconst (v := 1) dX0_skip_19 (by decide) ?_
  refine q_iadd dX0_skip_20 ?_
  refine q_putf (k := 1) (T := TX0) (C0 := RX0) (N := 3) (ci := 2) (ty := .int) tyX0 tyX0_ok nmX0 dX0_skip_21 fl_RX0_17 rfl uin_RX0 (by decide) rfl rfl (by decide +kernel) rfl rfl hc fc (Nat.le_of_ble_eq_true rfl) ?_
  show mv_rq l G mX0_skip (d + 1) 24 [some (.ref c)] [] (mv_set h c (.inr (2, [.ref s, .int ((nI p) + 1), .int ill]))) _
  obtain ⟨h_1, eh_1⟩ : ∃ z, z = mv_set h c (.inr (2, [.ref s, .int ((nI p) + 1), .int ill])) := ⟨_, rfl⟩
  rw [← eh_1]
  have fh_1_c : h_1.2.2 c = some (.inr (2, [.ref s, .int ((nI p) + 1), .int ill])) := by rw [eh_1]; exact mv_set_s
  have fh_1_s := (show h_1.2.2 s = _ by rw [eh_1]; exact mv_set_n (mv_ne fc fs (show (2 : Nat) ≠ 0 by decide))).trans fs
  exact q_vret dX0_skip_24 rfl ⟨rfl, by rw [eh_1, nI_1]⟩
set_option maxRecDepth 100000 in
set_option maxHeartbeats 4000000 in
theorem sp_restart {l : Launch} {G : mv_G} {d : Nat} {h : mv_H} (hG : mv_ok G) {c s s0 : Nat} {p : Int32} {ill : Int32} (fc : h.2.2 c = some (.inr (2, [.ref s0, .int p, .int ill]))) (hc : G.2.2.1 ≤ c) (hd : 1 ≤ d) : mv_rq l G mX0_restart d 0 (mv_in [.ref c, .ref s] 2) [] h (fun o h1 => o = .inl none ∧ mv_set h c (curE s 0 (-1)) = h1) := by
  obtain ⟨d, rfl⟩ : ∃ e, d = e + 1 := ⟨d - 1, by omega⟩
  show mv_rq l G mX0_restart (d + 1) 0 [some (.ref c), some (.ref s)] [] h _
  refine q_aload_n dX0_restart_0 rfl ?_
  refine q_aload_n dX0_restart_1 rfl ?_
  refine q_putf (k := 0) (T := TX0) (C0 := RX0) (N := 3) (ci := 2) (ty := (.object "java/lang/String")) tyX0 tyX0_ok nmX0 dX0_restart_2 fl_RX0_11 rfl uin_RX0 (by decide) rfl rfl (by decide +kernel) rfl rfl hc fc (Nat.le_of_ble_eq_true rfl) ?_
  show mv_rq l G mX0_restart (d + 1) 5 [some (.ref c), some (.ref s)] [] (mv_set h c (.inr (2, [.ref s, .int p, .int ill]))) _
  obtain ⟨h_1, eh_1⟩ : ∃ z, z = mv_set h c (.inr (2, [.ref s, .int p, .int ill])) := ⟨_, rfl⟩
  rw [← eh_1]
  have fh_1_c : h_1.2.2 c = some (.inr (2, [.ref s, .int p, .int ill])) := by rw [eh_1]; exact mv_set_s
  refine q_aload_n dX0_restart_5 rfl ?_
  refine q_iconst (v := 0) dX0_restart_6 (by decide) ?_
  refine q_putf (k := 1) (T := TX0) (C0 := RX0) (N := 3) (ci := 2) (ty := .int) tyX0 tyX0_ok nmX0 dX0_restart_7 fl_RX0_17 rfl uin_RX0 (by decide) rfl rfl (by decide +kernel) rfl rfl hc fh_1_c (Nat.le_of_ble_eq_true rfl) ?_
  show mv_rq l G mX0_restart (d + 1) 10 [some (.ref c), some (.ref s)] [] (mv_set h_1 c (.inr (2, [.ref s, .int 0, .int ill]))) _
  obtain ⟨h_2, eh_2⟩ : ∃ z, z = mv_set h_1 c (.inr (2, [.ref s, .int 0, .int ill])) := ⟨_, rfl⟩
  rw [← eh_2]
  have fh_2_c : h_2.2.2 c = some (.inr (2, [.ref s, .int 0, .int ill])) := by rw [eh_2]; exact mv_set_s
  refine q_aload_n dX0_restart_10 rfl ?_
  refine q_iconst (v := (-1)) dX0_restart_11 (by decide) ?_
  refine q_putf (k := 2) (T := TX0) (C0 := RX0) (N := 3) (ci := 2) (ty := .int) tyX0 tyX0_ok nmX0 dX0_restart_12 fl_RX0_21 rfl uin_RX0 (by decide) rfl rfl (by decide +kernel) rfl rfl hc fh_2_c (Nat.le_of_ble_eq_true rfl) ?_
  show mv_rq l G mX0_restart (d + 1) 15 [some (.ref c), some (.ref s)] [] (mv_set h_2 c (.inr (2, [.ref s, .int 0, .int (-1)]))) _
  obtain ⟨h_3, eh_3⟩ : ∃ z, z = mv_set h_2 c (.inr (2, [.ref s, .int 0, .int (-1)])) := ⟨_, rfl⟩
  rw [← eh_3]
  have fh_3_c : h_3.2.2 c = some (.inr (2, [.ref s, .int 0, .int (-1)])) := by rw [eh_3]; exact mv_set_s
  exact q_vret dX0_restart_15 rfl ⟨rfl, by rw [eh_3, eh_2, eh_1, mv_set_set, mv_set_set]; rfl⟩
