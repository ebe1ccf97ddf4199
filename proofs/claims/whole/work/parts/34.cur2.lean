theorem dX0_expectWord_0 : decode cX0_expectWord 0 = .ok (.iconst 0, 1) := by decide +kernel
theorem dX0_expectWord_1 : decode cX0_expectWord 1 = .ok (.istore_n 2, 1) := by decide +kernel
theorem dX0_expectWord_2 : decode cX0_expectWord 2 = .ok (.iload_n 2, 1) := by decide +kernel
theorem dX0_expectWord_3 : decode cX0_expectWord 3 = .ok (.aload_n 1, 1) := by decide +kernel
theorem dX0_expectWord_4 : decode cX0_expectWord 4 = .ok (.invokevirtual 24, 3) := by decide +kernel
theorem dX0_expectWord_7 : decode cX0_expectWord 7 = .ok (.if_icmp .ge 18, 3) := by decide +kernel
theorem dX0_expectWord_10 : decode cX0_expectWord 10 = .ok (.aload_n 0, 1) := by decide +kernel
theorem dX0_expectWord_11 : decode cX0_expectWord 11 = .ok (.aload_n 1, 1) := by decide +kernel
theorem dX0_expectWord_12 : decode cX0_expectWord 12 = .ok (.iload_n 2, 1) := by decide +kernel
theorem dX0_expectWord_13 : decode cX0_expectWord 13 = .ok (.invokevirtual 30, 3) := by decide +kernel
theorem dX0_expectWord_16 : decode cX0_expectWord 16 = .ok (.invokevirtual 52, 3) := by decide +kernel
theorem dX0_expectWord_19 : decode cX0_expectWord 19 = .ok (.iinc 2 1, 3) := by decide +kernel
theorem dX0_expectWord_22 : decode cX0_expectWord 22 = .ok (.goto (-20), 3) := by decide +kernel
theorem dX0_expectWord_25 : decode cX0_expectWord 25 = .ok (.return_, 1) := by decide +kernel
theorem nlt {a k : Nat} (ha : a < 128) (hk : k < 128) : nI a < nI k ↔ a < k := nI_ltI (by omega) (by omega)
theorem nle {a k : Nat} (ha : a < 128) (hk : k < 128) : nI a ≤ nI k ↔ a ≤ k := nI_leI (by omega) (by omega)
theorem neq {a k : Nat} (ha : a < 128) (hk : k < 128) : nI a = nI k ↔ a = k := nI_eq (by omega) (by omega)
theorem mv_str.set {G : mv_G} {h : mv_H} {s c : Nat} {t : List Nat} {e0 e : va_E} (hs : mv_str G h s t) (hc : h.2.2 c = some e0) (h0 : mv_tag e0 ≠ 0) (h1 : mv_tag e0 ≠ 1000) : mv_str G (mv_set h c e) s t := by
  obtain ⟨q, x, y, f, f1, f2, f3⟩ := hs
  exact ⟨q, x, y, f, by rw [mv_set_n (mv_ne hc f1 h0)]; exact f1, by rw [mv_set_n (mv_ne hc f2 h1)]; exact f2, f3⟩
/-- the first place from p on, over at most n blanks -/
def skB (t : List Nat) : Nat → Nat → Nat
  | 0, p => p
  | n + 1, p => if lk t p = 32 then skB t n (p + 1) else p
theorem lk_lt {t : List Nat} {p k : Nat} (h : lk t p = k) (hk : k ≠ 0) : p < t.length := by
  rcases Nat.lt_or_ge p t.length with z | z
  · exact z
  · exact absurd (h.symm.trans (lk_ge z)) hk
theorem skB_le {t : List Nat} : ∀ {n p : Nat}, p ≤ t.length → skB t n p ≤ t.length
  | 0, _, h => h
  | n + 1, p, h => by
    unfold skB
    split
    next e => exact skB_le (lk_lt e (by decide))
    next e => exact h
set_option maxRecDepth 100000 in
set_option maxHeartbeats 4000000 in
theorem sp_seesDigit {l : Launch} {G : mv_G} {d : Nat} {h : mv_H} (hG : mv_ok G) {c s : Nat} {t : List Nat} {p : Nat} {ill : Int32} (fc : h.2.2 c = some (curE s p ill)) (hs : mv_str G h s t) (hp : p ≤ t.length) (hd : 6 ≤ d) : mv_rq l G mX0_seesDigit d 0 (mv_in [.ref c] 1) [] h (fun o h1 => o = .inl (some (.int (if 48 ≤ lk t p ∧ lk t p ≤ 57 then 1 else 0))) ∧ h = h1) := by
  obtain ⟨d, rfl⟩ : ∃ e, d = e + 1 := ⟨d - 1, by omega⟩
  obtain ⟨q, x, y, f, fs, fq, h3, h4, h5⟩ := mv_str_at hs
  show mv_rq l G mX0_seesDigit (d + 1) 0 [some (.ref c)] [] h _
  refine q_aload_n dX0_seesDigit_0 rfl ?_
  refine q_cV (Y := mX0_look) (As := []) (st := []) (b := c) (ci := 2) vc_X0_look dX0_seesDigit_1 ml_RX0_41 rfl fc rfl (Nat.le_of_ble_eq_true rfl) rfl (Nat.le_of_ble_eq_true rfl) (sp_look hG fc hs hp (by omega)) (fun v h1 hq => ?_) (fun E h1 hq => nomatch hq.1)
  obtain ⟨hv, rfl⟩ := hq
  cases hv
  show mv_rq l G mX0_seesDigit (d + 1) 4 [some (.ref c)] [.int (nI (lk t p))] h _
  refine q_bipush (v := 48) dX0_seesDigit_4 (by decide) ?_
  refine q_icmp_lt (tgt := 22) dX0_seesDigit_6 (by decide) (fun c_6 => ?_) (fun c_6 => ?_)
  ·
    have k1 : lk t p < 48 := (nlt (h4 p) (by decide)).mp c_6
    rw [if_neg (by omega)]
    refine q_iconst (v := 0) dX0_seesDigit_22 (by decide) ?_
    exact q_iret (ty := .boolean) dX0_seesDigit_23 rfl rfl ⟨rfl, rfl⟩
  ·
    have k1 : ¬ lk t p < 48 := fun z => c_6 ((nlt (h4 p) (by decide)).mpr z)
    refine q_aload_n dX0_seesDigit_9 rfl ?_
    refine q_cV (Y := mX0_look) (As := []) (st := []) (b := c) (ci := 2) vc_X0_look dX0_seesDigit_10 ml_RX0_41 rfl fc rfl (Nat.le_of_ble_eq_true rfl) rfl (Nat.le_of_ble_eq_true rfl) (sp_look hG fc hs hp (by omega)) (fun v h1 hq => ?_) (fun E h1 hq => nomatch hq.1)
    obtain ⟨hv, rfl⟩ := hq
    cases hv
    show mv_rq l G mX0_seesDigit (d + 1) 13 [some (.ref c)] [.int (nI (lk t p))] h _
    refine q_bipush (v := 57) dX0_seesDigit_13 (by decide) ?_
    refine q_icmp_gt (tgt := 22) dX0_seesDigit_15 (by decide) (fun c_15 => ?_) (fun c_15 => ?_)
    ·
      have k2 : 57 < lk t p := (nlt (by decide) (h4 p)).mp c_15
      rw [if_neg (by omega)]
      refine q_iconst (v := 0) dX0_seesDigit_22 (by decide) ?_
      exact q_iret (ty := .boolean) dX0_seesDigit_23 rfl rfl ⟨rfl, rfl⟩
    ·
      have k2 : ¬ 57 < lk t p := fun z => c_15 ((nlt (by decide) (h4 p)).mpr z)
      rw [if_pos (by omega)]
      refine q_iconst (v := 1) dX0_seesDigit_18 (by decide) ?_
      refine q_goto (tgt := 23) dX0_seesDigit_19 (by decide) ?_
      exact q_iret (ty := .boolean) dX0_seesDigit_23 rfl rfl ⟨rfl, rfl⟩
set_option maxRecDepth 100000 in
set_option maxHeartbeats 4000000 in
theorem sp_seesLetter {l : Launch} {G : mv_G} {d : Nat} {h : mv_H} (hG : mv_ok G) {c s : Nat} {t : List Nat} {p : Nat} {ill : Int32} (fc : h.2.2 c = some (curE s p ill)) (hs : mv_str G h s t) (hp : p ≤ t.length) (hd : 6 ≤ d) : mv_rq l G mX0_seesLetter d 0 (mv_in [.ref c] 1) [] h (fun o h1 => o = .inl (some (.int (if 97 ≤ lk t p ∧ lk t p ≤ 122 then 1 else 0))) ∧ h = h1) := by
  obtain ⟨d, rfl⟩ : ∃ e, d = e + 1 := ⟨d - 1, by omega⟩
  obtain ⟨q, x, y, f, fs, fq, h3, h4, h5⟩ := mv_str_at hs
  show mv_rq l G mX0_seesLetter (d + 1) 0 [some (.ref c)] [] h _
  refine q_aload_n dX0_seesLetter_0 rfl ?_
  refine q_cV (Y := mX0_look) (As := []) (st := []) (b := c) (ci := 2) vc_X0_look dX0_seesLetter_1 ml_RX0_41 rfl fc rfl (Nat.le_of_ble_eq_true rfl) rfl (Nat.le_of_ble_eq_true rfl) (sp_look hG fc hs hp (by omega)) (fun v h1 hq => ?_) (fun E h1 hq => nomatch hq.1)
  obtain ⟨hv, rfl⟩ := hq
  cases hv
  show mv_rq l G mX0_seesLetter (d + 1) 4 [some (.ref c)] [.int (nI (lk t p))] h _
  refine q_bipush (v := 97) dX0_seesLetter_4 (by decide) ?_
  refine q_icmp_lt (tgt := 22) dX0_seesLetter_6 (by decide) (fun c_6 => ?_) (fun c_6 => ?_)
  ·
    have k1 : lk t p < 97 := (nlt (h4 p) (by decide)).mp c_6
    rw [if_neg (by omega)]
    refine q_iconst (v := 0) dX0_seesLetter_22 (by decide) ?_
    exact q_iret (ty := .boolean) dX0_seesLetter_23 rfl rfl ⟨rfl, rfl⟩
  ·
    have k1 : ¬ lk t p < 97 := fun z => c_6 ((nlt (h4 p) (by decide)).mpr z)
    refine q_aload_n dX0_seesLetter_9 rfl ?_
    refine q_cV (Y := mX0_look) (As := []) (st := []) (b := c) (ci := 2) vc_X0_look dX0_seesLetter_10 ml_RX0_41 rfl fc rfl (Nat.le_of_ble_eq_true rfl) rfl (Nat.le_of_ble_eq_true rfl) (sp_look hG fc hs hp (by omega)) (fun v h1 hq => ?_) (fun E h1 hq => nomatch hq.1)
    obtain ⟨hv, rfl⟩ := hq
    cases hv
    show mv_rq l G mX0_seesLetter (d + 1) 13 [some (.ref c)] [.int (nI (lk t p))] h _
    refine q_bipush (v := 122) dX0_seesLetter_13 (by decide) ?_
    refine q_icmp_gt (tgt := 22) dX0_seesLetter_15 (by decide) (fun c_15 => ?_) (fun c_15 => ?_)
    ·
      have k2 : 122 < lk t p := (nlt (by decide) (h4 p)).mp c_15
      rw [if_neg (by omega)]
      refine q_iconst (v := 0) dX0_seesLetter_22 (by decide) ?_
      exact q_iret (ty := .boolean) dX0_seesLetter_23 rfl rfl ⟨rfl, rfl⟩
    ·
      have k2 : ¬ 122 < lk t p := fun z => c_15 ((nlt (by decide) (h4 p)).mpr z)
      rw [if_pos (by omega)]
      refine q_iconst (v := 1) dX0_seesLetter_18 (by decide) ?_
      refine q_goto (tgt := 23) dX0_seesLetter_19 (by decide) ?_
      exact q_iret (ty := .boolean) dX0_seesLetter_23 rfl rfl ⟨rfl, rfl⟩
set_option maxRecDepth 100000 in
set_option maxHeartbeats 4000000 in
theorem sp_seesNumber {l : Launch} {G : mv_G} {d : Nat} {h : mv_H} (hG : mv_ok G) {c s : Nat} {t : List Nat} {p : Nat} {ill : Int32} (fc : h.2.2 c = some (curE s p ill)) (hs : mv_str G h s t) (hp : p ≤ t.length) (hd : 7 ≤ d) : mv_rq l G mX0_seesNumber d 0 (mv_in [.ref c] 1) [] h (fun o h1 => o = .inl (some (.int (if (48 ≤ lk t p ∧ lk t p ≤ 57) ∨ lk t p = 45 then 1 else 0))) ∧ h = h1) := by
  obtain ⟨d, rfl⟩ : ∃ e, d = e + 1 := ⟨d - 1, by omega⟩
  obtain ⟨q, x, y, f, fs, fq, h3, h4, h5⟩ := mv_str_at hs
  show mv_rq l G mX0_seesNumber (d + 1) 0 [some (.ref c)] [] h _
  refine q_aload_n dX0_seesNumber_0 rfl ?_
  refine q_cV (Y := mX0_seesDigit) (As := []) (st := []) (b := c) (ci := 2) vc_X0_seesDigit dX0_seesNumber_1 ml_RX0_56 rfl fc rfl (Nat.le_of_ble_eq_true rfl) rfl (Nat.le_of_ble_eq_true rfl) (sp_seesDigit hG fc hs hp (by omega)) (fun v h1 hq => ?_) (fun E h1 hq => nomatch hq.1)
  obtain ⟨hv, rfl⟩ := hq
  cases hv
  show mv_rq l G mX0_seesNumber (d + 1) 4 [some (.ref c)] [.int (if 48 ≤ lk t p ∧ lk t p ≤ 57 then 1 else 0)] h _
  refine q_if_ne (tgt := 16) dX0_seesNumber_4 (by decide) (fun c_4 => ?_) (fun c_4 => ?_)
  ·
    have k1 : 48 ≤ lk t p ∧ lk t p ≤ 57 := by
      by_cases z : 48 ≤ lk t p ∧ lk t p ≤ 57
      · exact z
      · exact absurd (if_neg z) c_4
    rw [if_pos (Or.inl k1)]
    refine q_iconst (v := 1) dX0_seesNumber_16 (by decide) ?_
    refine q_goto (tgt := 21) dX0_seesNumber_17 (by decide) ?_
    exact q_iret (ty := .boolean) dX0_seesNumber_21 rfl rfl ⟨rfl, rfl⟩
  ·
    have k1 : ¬ (48 ≤ lk t p ∧ lk t p ≤ 57) := fun z => by
      rw [if_pos z] at c_4
      exact absurd c_4 (by decide)
    refine q_aload_n dX0_seesNumber_7 rfl ?_
    refine q_cV (Y := mX0_look) (As := []) (st := []) (b := c) (ci := 2) vc_X0_look dX0_seesNumber_8 ml_RX0_41 rfl fc rfl (Nat.le_of_ble_eq_true rfl) rfl (Nat.le_of_ble_eq_true rfl) (sp_look hG fc hs hp (by omega)) (fun v h1 hq => ?_) (fun E h1 hq => nomatch hq.1)
    obtain ⟨hv, rfl⟩ := hq
    cases hv
    show mv_rq l G mX0_seesNumber (d + 1) 11 [some (.ref c)] [.int (nI (lk t p))] h _
    refine q_bipush (v := 45) dX0_seesNumber_11 (by decide) ?_
    refine q_icmp_ne (tgt := 20) dX0_seesNumber_13 (by decide) (fun c_13 => ?_) (fun c_13 => ?_)
    ·
      have k2 : lk t p ≠ 45 := fun z => c_13 ((neq (h4 p) (by decide)).mpr z)
      rw [if_neg (by omega)]
      refine q_iconst (v := 0) dX0_seesNumber_20 (by decide) ?_
      exact q_iret (ty := .boolean) dX0_seesNumber_21 rfl rfl ⟨rfl, rfl⟩
    ·
      have k2 : lk t p = 45 := (neq (h4 p) (by decide)).mp c_13
      rw [if_pos (Or.inr k2)]
      refine q_iconst (v := 1) dX0_seesNumber_16 (by decide) ?_
      refine q_goto (tgt := 21) dX0_seesNumber_17 (by decide) ?_
      exact q_iret (ty := .boolean) dX0_seesNumber_21 rfl rfl ⟨rfl, rfl⟩
set_option maxRecDepth 100000 in
set_option maxHeartbeats 4000000 in
theorem sp_passes {l : Launch} {G : mv_G} {d : Nat} {h : mv_H} (hG : mv_ok G) {c s : Nat} {t : List Nat} {p : Nat} {ill : Int32} (fc : h.2.2 c = some (curE s p ill)) (hs : mv_str G h s t) {ch : Nat} (hp : p ≤ t.length) (h0 : ch ≠ 0) (h9 : ch < 128) (hc : G.2.2.1 ≤ c) (hd : 6 ≤ d) : mv_rq l G mX0_passes d 0 (mv_in [.ref c, .int (nI ch)] 2) [] h (fun o h1 => (lk t p = ch ∧ o = .inl (some (.int 1)) ∧ mv_set h c (curE s (p + 1) ill) = h1) ∨ (lk t p ≠ ch ∧ o = .inl (some (.int 0)) ∧ h = h1)) := by
  obtain ⟨d, rfl⟩ : ∃ e, d = e + 1 := ⟨d - 1, by omega⟩
  obtain ⟨q, x, y, f, fs, fq, h3, h4, h5⟩ := mv_str_at hs
  show mv_rq l G mX0_passes (d + 1) 0 [some (.ref c), some (.int (nI ch))] [] h _
  refine q_aload_n dX0_passes_0 rfl ?_
  refine q_cV (Y := mX0_look) (As := []) (st := []) (b := c) (ci := 2) vc_X0_look dX0_passes_1 ml_RX0_41 rfl fc rfl (Nat.le_of_ble_eq_true rfl) rfl (Nat.le_of_ble_eq_true rfl) (sp_look hG fc hs hp (by omega)) (fun v h1 hq => ?_) (fun E h1 hq => nomatch hq.1)
  obtain ⟨hv, rfl⟩ := hq
  cases hv
  show mv_rq l G mX0_passes (d + 1) 4 [some (.ref c), some (.int (nI ch))] [.int (nI (lk t p))] h _
  refine q_iload_n dX0_passes_4 rfl ?_
  refine q_icmp_eq (tgt := 10) dX0_passes_5 (by decide) (fun c_5 => ?_) (fun c_5 => ?_)
  ·
    have heq : lk t p = ch := (neq (h4 p) h9).mp c_5
    refine q_aload_n dX0_passes_10 rfl ?_
    refine q_cV (Y := mX0_skip) (As := []) (st := []) (b := c) (ci := 2) vc_X0_skip dX0_passes_11 ml_RX0_45 rfl fc rfl (Nat.le_of_ble_eq_true rfl) rfl (Nat.le_of_ble_eq_true rfl) (sp_skip hG fc hs (lk_lt heq h0) hc (by omega)) (fun v h1 hq => ?_) (fun E h1 hq => nomatch hq.1)
    obtain ⟨hv, rfl⟩ := hq
    cases hv
    show mv_rq l G mX0_passes (d + 1) 14 [some (.ref c), some (.int (nI ch))] [] (mv_set h c (curE s (p + 1) ill)) _
    refine q_iconst (v := 1) dX0_passes_14 (by decide) ?_
    exact q_iret (ty := .boolean) dX0_passes_15 rfl rfl (Or.inl ⟨heq, rfl, rfl⟩)
  ·
    have hne : lk t p ≠ ch := fun z => c_5 (by rw [z])
    refine q_iconst (v := 0) dX0_passes_8 (by decide) ?_
    exact q_iret (ty := .boolean) dX0_passes_9 rfl rfl (Or.inr ⟨hne, rfl, rfl⟩)
set_option maxRecDepth 100000 in
set_option maxHeartbeats 4000000 in
theorem sp_skB_loop {l : Launch} {G : mv_G} {d : Nat} (hG : mv_ok G) {c s : Nat} {t : List Nat} {ill : Int32} (hc : G.2.2.1 ≤ c) (hd : 6 ≤ d + 1) : ∀ (n i p : Nat) (h : mv_H), i + n = 160 → h.2.2 c = some (curE s p ill) → mv_str G h s t → p ≤ t.length →
    mv_rq l G mX0_skipBlanks (d + 1) 2 [some (.ref c), some (.int (nI i))] [] h (fun o h1 => o = .inl none ∧ mv_set h c (curE s (skB t n p) ill) = h1) := by
  intro n
  induction n with
  | zero =>
    intro i p h hi fc hs hp
    obtain rfl : i = 160 := by omega
    refine q_iload_n dX0_skipBlanks_2 rfl ?_
    refine q_sipush (v := 160) dX0_skipBlanks_3 (by decide) ?_
    refine q_icmp_ge (tgt := 28) dX0_skipBlanks_6 (by decide) (fun _ => ?_) (fun z => absurd (by decide) z)
    exact q_vret dX0_skipBlanks_28 rfl ⟨rfl, mv_set_self fc⟩
  | succ n ih =>
    intro i p h hi fc hs hp
    obtain ⟨q, x, y, f, fs, fq, h3, h4, h5⟩ := mv_str_at hs
    refine q_iload_n dX0_skipBlanks_2 rfl ?_
    refine q_sipush (v := 160) dX0_skipBlanks_3 (by decide) ?_
    refine q_icmp_ge (tgt := 28) dX0_skipBlanks_6 (by decide) (fun z => absurd z (nI_ge (show i < 160 by omega) (by decide))) (fun _ => ?_)
    refine q_aload_n dX0_skipBlanks_9 rfl ?_
    refine q_cV (Y := mX0_look) (As := []) (st := []) (b := c) (ci := 2) vc_X0_look dX0_skipBlanks_10 ml_RX0_41 rfl fc rfl (Nat.le_of_ble_eq_true rfl) rfl (Nat.le_of_ble_eq_true rfl) (sp_look hG fc hs hp (by omega)) (fun v h1 hq => ?_) (fun E h1 hq => nomatch hq.1)
    obtain ⟨hv, rfl⟩ := hq
    cases hv
    show mv_rq l G mX0_skipBlanks (d + 1) 13 [some (.ref c), some (.int (nI i))] [.int (nI (lk t p))] h _
    refine q_bipush (v := 32) dX0_skipBlanks_13 (by decide) ?_
    refine q_icmp_ne (tgt := 28) dX0_skipBlanks_15 (by decide) (fun c_15 => ?_) (fun c_15 => ?_)
    ·
      have k1 : lk t p ≠ 32 := fun z => c_15 ((neq (h4 p) (by decide)).mpr z)
      have k2 : skB t (n + 1) p = p := by unfold skB; rw [if_neg k1]
      rw [k2]
      exact q_vret dX0_skipBlanks_28 rfl ⟨rfl, mv_set_self fc⟩
    ·
      have k1 : lk t p = 32 := (neq (h4 p) (by decide)).mp c_15
      have k2 : skB t (n + 1) p = skB t n (p + 1) := by rw [skB, if_pos k1]
      have hlt := lk_lt k1 (by decide)
      rw [k2]
      refine q_aload_n dX0_skipBlanks_18 rfl ?_
      refine q_cV (Y := mX0_skip) (As := []) (st := []) (b := c) (ci := 2) vc_X0_skip dX0_skipBlanks_19 ml_RX0_45 rfl fc rfl (Nat.le_of_ble_eq_true rfl) rfl (Nat.le_of_ble_eq_true rfl) (sp_skip hG fc hs hlt hc (by omega)) (fun v h1 hq => ?_) (fun E h1 hq => nomatch hq.1)
      obtain ⟨hv, rfl⟩ := hq
      cases hv
      show mv_rq l G mX0_skipBlanks (d + 1) 22 [some (.ref c), some (.int (nI i))] [] (mv_set h c (curE s (p + 1) ill)) _
      refine q_iinc dX0_skipBlanks_22 rfl rfl ?_
      show mv_rq l G mX0_skipBlanks (d + 1) 25 [some (.ref c), some (.int ((nI i) + 1))] [] (mv_set h c (curE s (p + 1) ill)) _
      refine q_goto (tgt := 2) dX0_skipBlanks_25 (by decide) ?_
      have hn := ih (i + 1) (p + 1) (mv_set h c (curE s (p + 1) ill)) (by omega) mv_set_s (hs.set fc (show (2 : Nat) ≠ 0 by decide) (show (2 : Nat) ≠ 1000 by decide)) hlt
      rw [mv_set_set] at hn
      rw [← nI_1] at hn
      exact hn
set_option maxRecDepth 100000 in
set_option maxHeartbeats 4000000 in
theorem sp_skipBlanks {l : Launch} {G : mv_G} {d : Nat} {h : mv_H} (hG : mv_ok G) {c s : Nat} {t : List Nat} {p : Nat} {ill : Int32} (fc : h.2.2 c = some (curE s p ill)) (hs : mv_str G h s t) (hp : p ≤ t.length) (hc : G.2.2.1 ≤ c) (hd : 6 ≤ d) : mv_rq l G mX0_skipBlanks d 0 (mv_in [.ref c] 2) [] h (fun o h1 => o = .inl none ∧ mv_set h c (curE s (skB t 160 p) ill) = h1) := by
  obtain ⟨d, rfl⟩ : ∃ e, d = e + 1 := ⟨d - 1, by omega⟩
  show mv_rq l G mX0_skipBlanks (d + 1) 0 [some (.ref c), none] [] h _
  refine q_iconst (v := 0) dX0_skipBlanks_0 (by decide) ?_
  refine q_istore_n dX0_skipBlanks_1 (Nat.le_of_ble_eq_true rfl) rfl ?_
  show mv_rq l G mX0_skipBlanks (d + 1) 2 [some (.ref c), some (.int 0)] [] h _
  exact sp_skB_loop hG hc hd 160 0 p h rfl fc hs hp
/-- a word's letters from place i on, at p: behind it, or where they part -/
def exW (t v : List Nat) : Nat → Nat → Nat → Nat ⊕ Nat
  | 0, _, p => .inl p
  | n + 1, i, p => if lk t p = lk v i then exW t v n (i + 1) (p + 1) else .inr p
set_option maxRecDepth 100000 in
set_option maxHeartbeats 4000000 in
theorem sp_exW_loop {l : Launch} {G : mv_G} {d : Nat} (hG : mv_ok G) (hX : mv_okX l G) {c s b : Nat} {t v : List Nat} {ill : Int32} (hc : G.2.2.1 ≤ c) (hd : 9 ≤ d + 1) (hv0 : ∀ j, j < v.length → lk v j ≠ 0) : ∀ (n i p : Nat) (h : mv_H), i + n = v.length → h.2.2 c = some (curE s p ill) → mv_str G h s t → mv_str G h b v → p ≤ t.length →
    mv_rq l G mX0_expectWord (d + 1) 2 [some (.ref c), some (.ref b), some (.int (nI i))] [] h (fun o h1 => (∃ p', exW t v n i p = .inl p' ∧ p' ≤ t.length ∧ o = .inl none ∧ mv_set h c (curE s p' ill) = h1) ∨ (∃ p', exW t v n i p = .inr p' ∧ o = .inr (xIA, h.1) ∧ thr (mv_set h c (curE s p' (nI p'))) = h1)) := by
  intro n
  induction n with
  | zero =>
    intro i p h hi fc hs hb hp
    obtain ⟨q, x, y, f, fs, fq, h3, h4, h5⟩ := mv_str_at hs
    obtain ⟨q', x', y', f', fb, fq', h3', h4', h5'⟩ := mv_str_at hb
    refine q_iload_n dX0_expectWord_2 rfl ?_
    refine q_aload_n dX0_expectWord_3 rfl ?_
    refine q_cV (Y := mJ0_length_8abf5) (As := []) (st := [.int (nI i)]) (b := b) (ci := 0) vc_J0_length_8abf5 dX0_expectWord_4 ml_RX0_24 rfl fb rfl (Nat.le_of_ble_eq_true rfl) rfl (Nat.le_of_ble_eq_true rfl) (sp_lenT hG hb (by omega)) (fun v h1 hq => ?_) (fun E h1 hq => nomatch hq.1)
    obtain ⟨hv, rfl⟩ := hq
    cases hv
    show mv_rq l G mX0_expectWord (d + 1) 7 [some (.ref c), some (.ref b), some (.int (nI i))] [.int (nI v.length), .int (nI i)] h _
    refine q_icmp_ge (tgt := 25) dX0_expectWord_7 (by decide) (fun _ => ?_) (fun z => absurd (nI_le (show v.length ≤ i by omega) (by omega)) z)
    exact q_vret dX0_expectWord_25 rfl (Or.inl ⟨p, rfl, hp, rfl, mv_set_self fc⟩)
  | succ n ih =>
    intro i p h hi fc hs hb hp
    obtain ⟨q, x, y, f, fs, fq, h3, h4, h5⟩ := mv_str_at hs
    obtain ⟨q', x', y', f', fb, fq', h3', h4', h5'⟩ := mv_str_at hb
    have hiv : i < v.length := by omega
    refine q_iload_n dX0_expectWord_2 rfl ?_
    refine q_aload_n dX0_expectWord_3 rfl ?_
    refine q_cV (Y := mJ0_length_8abf5) (As := []) (st := [.int (nI i)]) (b := b) (ci := 0) vc_J0_length_8abf5 dX0_expectWord_4 ml_RX0_24 rfl fb rfl (Nat.le_of_ble_eq_true rfl) rfl (Nat.le_of_ble_eq_true rfl) (sp_lenT hG hb (by omega)) (fun v h1 hq => ?_) (fun E h1 hq => nomatch hq.1)
    obtain ⟨hv, rfl⟩ := hq
    cases hv
    show mv_rq l G mX0_expectWord (d + 1) 7 [some (.ref c), some (.ref b), some (.int (nI i))] [.int (nI v.length), .int (nI i)] h _
    refine q_icmp_ge (tgt := 25) dX0_expectWord_7 (by decide) (fun z => absurd z (nI_ge hiv (by omega))) (fun _ => ?_)
    refine q_aload_n dX0_expectWord_10 rfl ?_
    refine q_aload_n dX0_expectWord_11 rfl ?_
    refine q_iload_n dX0_expectWord_12 rfl ?_
    refine q_cV (Y := mJ0_charAt_5068e) (As := [.int (nI i)]) (st := [.ref c]) (b := b) (ci := 0) vc_J0_charAt_5068e dX0_expectWord_13 ml_RX0_30 rfl fb rfl (Nat.le_of_ble_eq_true rfl) rfl (Nat.le_of_ble_eq_true rfl) (sp_charT hG hb hiv (by omega)) (fun v h1 hq => ?_) (fun E h1 hq => nomatch hq.1)
    obtain ⟨hv, rfl⟩ := hq
    cases hv
    show mv_rq l G mX0_expectWord (d + 1) 16 [some (.ref c), some (.ref b), some (.int (nI i))] [.int (nI (lk v i)), .ref c] h _
    refine q_cV (Y := mX0_expect) (As := [.int (nI (lk v i))]) (st := []) (b := c) (ci := 2) vc_X0_expect dX0_expectWord_16 ml_RX0_52 rfl fc rfl (Nat.le_of_ble_eq_true rfl) rfl (Nat.le_of_ble_eq_true rfl) (sp_expect hG hX fc hs hp (hv0 i hiv) (h4' i) hc (by omega)) (fun v h1 hq => ?_) (fun E h1 hq => by
      rcases hq with ⟨heq, hv, he⟩ | ⟨hne, hv, rfl⟩
      · cases hv
      · cases hv
        exact q_xout (fun z hz => nomatch hz) (Or.inr ⟨p, by rw [exW, if_neg hne], rfl, rfl⟩))
    rcases hq with ⟨heq, hv, rfl⟩ | ⟨hne, hv, rfl⟩
    · cases hv
      have hlt := lk_lt heq (hv0 i hiv)
      have hn := ih (i + 1) (p + 1) (mv_set h c (curE s (p + 1) ill)) (by omega) mv_set_s (hs.set fc (show (2 : Nat) ≠ 0 by decide) (show (2 : Nat) ≠ 1000 by decide)) (hb.set fc (show (2 : Nat) ≠ 0 by decide) (show (2 : Nat) ≠ 1000 by decide)) hlt
      have k2 : exW t v (n + 1) i p = exW t v n (i + 1) (p + 1) := by rw [exW, if_pos heq]
      rw [k2]
      show mv_rq l G mX0_expectWord (d + 1) 19 [some (.ref c), some (.ref b), some (.int (nI i))] [] (mv_set h c (curE s (p + 1) ill)) _
      refine q_iinc dX0_expectWord_19 rfl rfl ?_
      show mv_rq l G mX0_expectWord (d + 1) 22 [some (.ref c), some (.ref b), some (.int (nI i + 1))] [] (mv_set h c (curE s (p + 1) ill)) _
      refine q_goto (tgt := 2) dX0_expectWord_22 (by decide) ?_
      rw [nI_1]
      simp only [mv_set_set] at hn
      exact hn
    · cases hv
set_option maxRecDepth 100000 in
set_option maxHeartbeats 4000000 in
theorem sp_expectWord {l : Launch} {G : mv_G} {d : Nat} {h : mv_H} (hG : mv_ok G) (hX : mv_okX l G) {c s : Nat} {t : List Nat} {p : Nat} {ill : Int32} (fc : h.2.2 c = some (curE s p ill)) (hs : mv_str G h s t) {b : Nat} {v : List Nat} (hb : mv_str G h b v) (hv0 : ∀ j, j < v.length → lk v j ≠ 0) (hp : p ≤ t.length) (hc : G.2.2.1 ≤ c) (hd : 9 ≤ d) : mv_rq l G mX0_expectWord d 0 (mv_in [.ref c, .ref b] 3) [] h (fun o h1 => (∃ p', exW t v v.length 0 p = .inl p' ∧ p' ≤ t.length ∧ o = .inl none ∧ mv_set h c (curE s p' ill) = h1) ∨ (∃ p', exW t v v.length 0 p = .inr p' ∧ o = .inr (xIA, h.1) ∧ thr (mv_set h c (curE s p' (nI p'))) = h1)) := by
  obtain ⟨d, rfl⟩ : ∃ e, d = e + 1 := ⟨d - 1, by omega⟩
  show mv_rq l G mX0_expectWord (d + 1) 0 [some (.ref c), some (.ref b), none] [] h _
  refine q_iconst (v := 0) dX0_expectWord_0 (by decide) ?_
  refine q_istore_n dX0_expectWord_1 (Nat.le_of_ble_eq_true rfl) rfl ?_
  show mv_rq l G mX0_expectWord (d + 1) 2 [some (.ref c), some (.ref b), some (.int 0)] [] h _
  exact sp_exW_loop hG hX hc hd hv0 v.length 0 p h (by omega) fc hs hb hp
