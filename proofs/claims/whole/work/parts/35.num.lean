theorem dX0_readNumber_0 : decode cX0_readNumber 0 = .ok (.aload_n 0, 1) := by decide +kernel
theorem dX0_readNumber_1 : decode cX0_readNumber 1 = .ok (.getfield 17, 3) := by decide +kernel
theorem dX0_readNumber_4 : decode cX0_readNumber 4 = .ok (.istore_n 2, 1) := by decide +kernel
theorem dX0_readNumber_5 : decode cX0_readNumber 5 = .ok (.aload_n 0, 1) := by decide +kernel
theorem dX0_readNumber_6 : decode cX0_readNumber 6 = .ok (.bipush 45, 2) := by decide +kernel
theorem dX0_readNumber_8 : decode cX0_readNumber 8 = .ok (.invokevirtual 60, 3) := by decide +kernel
theorem dX0_readNumber_11 : decode cX0_readNumber 11 = .ok (.istore_n 3, 1) := by decide +kernel
theorem dX0_readNumber_12 : decode cX0_readNumber 12 = .ok (.iload_n 3, 1) := by decide +kernel
theorem dX0_readNumber_13 : decode cX0_readNumber 13 = .ok (.ifCond .ne 14, 3) := by decide +kernel
theorem dX0_readNumber_16 : decode cX0_readNumber 16 = .ok (.aload_n 0, 1) := by decide +kernel
theorem dX0_readNumber_17 : decode cX0_readNumber 17 = .ok (.bipush 48, 2) := by decide +kernel
theorem dX0_readNumber_19 : decode cX0_readNumber 19 = .ok (.invokevirtual 60, 3) := by decide +kernel
theorem dX0_readNumber_22 : decode cX0_readNumber 22 = .ok (.ifCond .eq 5, 3) := by decide +kernel
theorem dX0_readNumber_25 : decode cX0_readNumber 25 = .ok (.iconst 0, 1) := by decide +kernel
theorem dX0_readNumber_26 : decode cX0_readNumber 26 = .ok (.ireturn, 1) := by decide +kernel
theorem dX0_readNumber_27 : decode cX0_readNumber 27 = .ok (.aload_n 0, 1) := by decide +kernel
theorem dX0_readNumber_28 : decode cX0_readNumber 28 = .ok (.invokevirtual 56, 3) := by decide +kernel
theorem dX0_readNumber_31 : decode cX0_readNumber 31 = .ok (.ifCond .eq 12, 3) := by decide +kernel
theorem dX0_readNumber_34 : decode cX0_readNumber 34 = .ok (.aload_n 0, 1) := by decide +kernel
theorem dX0_readNumber_35 : decode cX0_readNumber 35 = .ok (.invokevirtual 41, 3) := by decide +kernel
theorem dX0_readNumber_38 : decode cX0_readNumber 38 = .ok (.bipush 48, 2) := by decide +kernel
theorem dX0_readNumber_40 : decode cX0_readNumber 40 = .ok (.if_icmp .ne 11, 3) := by decide +kernel
theorem dX0_readNumber_43 : decode cX0_readNumber 43 = .ok (.aload_n 0, 1) := by decide +kernel
theorem dX0_readNumber_44 : decode cX0_readNumber 44 = .ok (.aload_n 0, 1) := by decide +kernel
theorem dX0_readNumber_45 : decode cX0_readNumber 45 = .ok (.getfield 17, 3) := by decide +kernel
theorem dX0_readNumber_48 : decode cX0_readNumber 48 = .ok (.invokevirtual 48, 3) := by decide +kernel
theorem dX0_readNumber_51 : decode cX0_readNumber 51 = .ok (.iconst 0, 1) := by decide +kernel
theorem dX0_readNumber_52 : decode cX0_readNumber 52 = .ok (.istore 4, 2) := by decide +kernel
theorem dX0_readNumber_54 : decode cX0_readNumber 54 = .ok (.iconst 0, 1) := by decide +kernel
theorem dX0_readNumber_55 : decode cX0_readNumber 55 = .ok (.istore 5, 2) := by decide +kernel
theorem dX0_readNumber_57 : decode cX0_readNumber 57 = .ok (.iload 5, 2) := by decide +kernel
theorem dX0_readNumber_59 : decode cX0_readNumber 59 = .ok (.iload_n 1, 1) := by decide +kernel
theorem dX0_readNumber_60 : decode cX0_readNumber 60 = .ok (.if_icmp .ge 35, 3) := by decide +kernel
theorem dX0_readNumber_63 : decode cX0_readNumber 63 = .ok (.aload_n 0, 1) := by decide +kernel
theorem dX0_readNumber_64 : decode cX0_readNumber 64 = .ok (.invokevirtual 56, 3) := by decide +kernel
theorem dX0_readNumber_67 : decode cX0_readNumber 67 = .ok (.ifCond .eq 28, 3) := by decide +kernel
theorem dX0_readNumber_70 : decode cX0_readNumber 70 = .ok (.iload 4, 2) := by decide +kernel
theorem dX0_readNumber_72 : decode cX0_readNumber 72 = .ok (.bipush 10, 2) := by decide +kernel
theorem dX0_readNumber_74 : decode cX0_readNumber 74 = .ok (.imul, 1) := by decide +kernel
theorem dX0_readNumber_75 : decode cX0_readNumber 75 = .ok (.aload_n 0, 1) := by decide +kernel
theorem dX0_readNumber_76 : decode cX0_readNumber 76 = .ok (.invokevirtual 41, 3) := by decide +kernel
theorem dX0_readNumber_79 : decode cX0_readNumber 79 = .ok (.bipush 48, 2) := by decide +kernel
theorem dX0_readNumber_81 : decode cX0_readNumber 81 = .ok (.isub, 1) := by decide +kernel
theorem dX0_readNumber_82 : decode cX0_readNumber 82 = .ok (.iadd, 1) := by decide +kernel
theorem dX0_readNumber_83 : decode cX0_readNumber 83 = .ok (.istore 4, 2) := by decide +kernel
theorem dX0_readNumber_85 : decode cX0_readNumber 85 = .ok (.aload_n 0, 1) := by decide +kernel
theorem dX0_readNumber_86 : decode cX0_readNumber 86 = .ok (.invokevirtual 45, 3) := by decide +kernel
theorem dX0_readNumber_89 : decode cX0_readNumber 89 = .ok (.iinc 5 1, 3) := by decide +kernel
theorem dX0_readNumber_92 : decode cX0_readNumber 92 = .ok (.goto (-35), 3) := by decide +kernel
theorem dX0_readNumber_95 : decode cX0_readNumber 95 = .ok (.aload_n 0, 1) := by decide +kernel
theorem dX0_readNumber_96 : decode cX0_readNumber 96 = .ok (.invokevirtual 56, 3) := by decide +kernel
theorem dX0_readNumber_99 : decode cX0_readNumber 99 = .ok (.ifCond .eq 8, 3) := by decide +kernel
theorem dX0_readNumber_102 : decode cX0_readNumber 102 = .ok (.aload_n 0, 1) := by decide +kernel
theorem dX0_readNumber_103 : decode cX0_readNumber 103 = .ok (.iload_n 2, 1) := by decide +kernel
theorem dX0_readNumber_104 : decode cX0_readNumber 104 = .ok (.invokevirtual 48, 3) := by decide +kernel
theorem dX0_readNumber_107 : decode cX0_readNumber 107 = .ok (.iload_n 3, 1) := by decide +kernel
theorem dX0_readNumber_108 : decode cX0_readNumber 108 = .ok (.ifCond .eq 9, 3) := by decide +kernel
theorem dX0_readNumber_111 : decode cX0_readNumber 111 = .ok (.iload 4, 2) := by decide +kernel
theorem dX0_readNumber_113 : decode cX0_readNumber 113 = .ok (.ineg, 1) := by decide +kernel
theorem dX0_readNumber_114 : decode cX0_readNumber 114 = .ok (.goto 5, 3) := by decide +kernel
theorem dX0_readNumber_117 : decode cX0_readNumber 117 = .ok (.iload 4, 2) := by decide +kernel
theorem dX0_readNumber_119 : decode cX0_readNumber 119 = .ok (.ireturn, 1) := by decide +kernel
abbrev isDg (t : List Nat) (p : Nat) : Prop := 48 ≤ lk t p ∧ lk t p ≤ 57
/-- at most n digits from p on: behind them, and what they say -/
def rdD (t : List Nat) : Nat → Nat → Nat → Nat × Nat
  | 0, p, a => (p, a)
  | n + 1, p, a => if isDg t p then rdD t n (p + 1) (a * 10 + (lk t p - 48)) else (p, a)
def rdN (t : List Nat) (lim p : Nat) : (Int32 × Nat) ⊕ Nat :=
  let p1 := if lk t p = 45 then p + 1 else p
  if lk t p ≠ 45 ∧ lk t p = 48 then .inl (0, p + 1)
  else if ¬ isDg t p1 ∨ lk t p1 = 48 then .inr p1
  else if isDg t (rdD t lim p1 0).1 then .inr p
  else .inl (if lk t p = 45 then -(nI (rdD t lim p1 0).2) else nI (rdD t lim p1 0).2, (rdD t lim p1 0).1)
theorem rdD_le {t : List Nat} : ∀ {n p a : Nat}, p ≤ t.length → (rdD t n p a).1 ≤ t.length
  | 0, _, _, h => h
  | n + 1, p, a, h => by
    unfold rdD
    split
    next e => exact rdD_le (lk_lt (rfl : lk t p = lk t p) (by have := e.1; omega))
    next e => exact h
theorem dgI (c : Nat) (h1 : 48 ≤ c) : nI c - 48 = nI (c - 48) := pk_sub (a := c) (b := 48) h1
theorem accI (a k : Nat) : nI a * 10 + nI k = nI (a * 10 + k) := by
  rw [show (10 : Int32) = nI 10 from rfl, pk_mul, nI_add]
abbrev mvQn (h : mv_H) (c s : Nat) (t : List Nat) (ill : Int32) (r : (Int32 × Nat) ⊕ Nat) (o : mv_O) (h1 : mv_H) : Prop :=
  (∃ v p', r = .inl (v, p') ∧ p' ≤ t.length ∧ o = .inl (some (.int v)) ∧ mv_set h c (curE s p' ill) = h1) ∨ (∃ w p'', r = .inr w ∧ o = .inr (xIA, h.1) ∧ thr (mv_set h c (curE s p'' (nI w))) = h1)
set_option maxRecDepth 100000 in
set_option maxHeartbeats 4000000 in
theorem sp_rdN_95 {l : Launch} {G : mv_G} {d : Nat} (hG : mv_ok G) (hX : mv_okX l G) {c s : Nat} {t : List Nat} {ill : Int32} (hc : G.2.2.1 ≤ c) (hd : 9 ≤ d + 1) {lim p0 : Nat} {b : Int32} {a i p : Nat} {h : mv_H} (fc : h.2.2 c = some (curE s p ill)) (hs : mv_str G h s t) (hp : p ≤ t.length) : mv_rq l G mX0_readNumber (d + 1) 95 [some (.ref c), some (.int (nI lim)), some (.int (nI p0)), some (.int b), some (.int (nI a)), some (.int (nI i))] [] h (fun o h1 => (¬ isDg t p ∧ o = .inl (some (.int (if b = 0 then nI a else -(nI a)))) ∧ h = h1) ∨ (isDg t p ∧ o = .inr (xIA, h.1) ∧ thr (mv_set h c (curE s p (nI p0))) = h1)) := by
  obtain ⟨q, x, y, f, fs, fq, h3, h4, h5⟩ := mv_str_at hs
  refine q_aload_n dX0_readNumber_95 rfl ?_
  refine q_cV (Y := mX0_seesDigit) (As := []) (st := []) (b := c) (ci := 2) vc_X0_seesDigit dX0_readNumber_96 ml_RX0_56 rfl fc rfl (Nat.le_of_ble_eq_true rfl) rfl (Nat.le_of_ble_eq_true rfl) (sp_seesDigit hG fc hs hp (by omega)) (fun v h1 hq => ?_) (fun E h1 hq => nomatch hq.1)
  obtain ⟨hv, rfl⟩ := hq
  cases hv
  show mv_rq l G mX0_readNumber (d + 1) 99 [some (.ref c), some (.int (nI lim)), some (.int (nI p0)), some (.int b), some (.int (nI a)), some (.int (nI i))] [.int (if 48 ≤ lk t p ∧ lk t p ≤ 57 then 1 else 0)] h _
  refine q_if_eq (tgt := 107) dX0_readNumber_99 (by decide) (fun c_99 => ?_) (fun c_99 => ?_)
  ·
    have k1 : ¬ isDg t p := fun z => by
      rw [if_pos z] at c_99
      exact absurd c_99 (by decide)
    refine q_iload_n dX0_readNumber_107 rfl ?_
    refine q_if_eq (tgt := 117) dX0_readNumber_108 (by decide) (fun c_108 => ?_) (fun c_108 => ?_)
    ·
      rw [if_pos c_108]
      refine q_iload dX0_readNumber_117 rfl ?_
      exact q_iret (ty := .int) dX0_readNumber_119 rfl rfl (Or.inl ⟨k1, rfl, rfl⟩)
    ·
      rw [if_neg c_108]
      refine q_iload dX0_readNumber_111 rfl ?_
      refine q_ineg dX0_readNumber_113 ?_
      refine q_goto (tgt := 119) dX0_readNumber_114 (by decide) ?_
      exact q_iret (ty := .int) dX0_readNumber_119 rfl rfl (Or.inl ⟨k1, rfl, rfl⟩)
  ·
    have k1 : isDg t p := by
      by_cases z : isDg t p
      · exact z
      · exact absurd (if_neg z) c_99
    refine q_aload_n dX0_readNumber_102 rfl ?_
    refine q_iload_n dX0_readNumber_103 rfl ?_
    refine q_cV (Y := mX0_refuse) (As := [.int (nI p0)]) (st := []) (b := c) (ci := 2) vc_X0_refuse dX0_readNumber_104 ml_RX0_48 rfl fc rfl (Nat.le_of_ble_eq_true rfl) rfl (Nat.le_of_ble_eq_true rfl) (sp_refuse hG hX fc hc (by omega)) (fun v h1 hq => ?_) (fun E h1 hq => by
      obtain ⟨hv, rfl⟩ := hq
      cases hv
      exact q_xout (fun z hz => nomatch hz) (Or.inr ⟨k1, rfl, rfl⟩))
    exact absurd hq.1 (by intro z; cases z)
set_option maxRecDepth 100000 in
set_option maxHeartbeats 4000000 in
theorem sp_rdN_57 {l : Launch} {G : mv_G} {d : Nat} (hG : mv_ok G) (hX : mv_okX l G) {c s : Nat} {t : List Nat} {ill : Int32} (hc : G.2.2.1 ≤ c) (hd : 9 ≤ d + 1) {lim p0 : Nat} {b : Int32} (hl : lim < 100) : ∀ (n i p a : Nat) (h : mv_H), i + n = lim → h.2.2 c = some (curE s p ill) → mv_str G h s t → p ≤ t.length → mv_rq l G mX0_readNumber (d + 1) 57 [some (.ref c), some (.int (nI lim)), some (.int (nI p0)), some (.int b), some (.int (nI a)), some (.int (nI i))] [] h (fun o h1 => (¬ isDg t (rdD t n p a).1 ∧ o = .inl (some (.int (if b = 0 then nI (rdD t n p a).2 else -(nI (rdD t n p a).2)))) ∧ mv_set h c (curE s (rdD t n p a).1 ill) = h1) ∨ (isDg t (rdD t n p a).1 ∧ o = .inr (xIA, h.1) ∧ ∃ p'', thr (mv_set h c (curE s p'' (nI p0))) = h1)) := by
  intro n
  induction n with
  | zero =>
    intro i p a h hi fc hs hp
    obtain rfl : i = lim := by omega
    refine q_iload dX0_readNumber_57 rfl ?_
    refine q_iload_n dX0_readNumber_59 rfl ?_
    refine q_icmp_ge (tgt := 95) dX0_readNumber_60 (by decide) (fun _ => ?_) (fun z => absurd (nI_le (Nat.le_refl i) (by omega)) z)
    refine (sp_rdN_95 hG hX hc hd fc hs hp).mono fun o h1 hq => ?_
    rcases hq with ⟨k1, k2, rfl⟩ | ⟨k1, k2, rfl⟩
    · exact Or.inl ⟨k1, k2, mv_set_self fc⟩
    · exact Or.inr ⟨k1, k2, p, rfl⟩
  | succ n ih =>
    intro i p a h hi fc hs hp
    obtain ⟨q, x, y, f, fs, fq, h3, h4, h5⟩ := mv_str_at hs
    refine q_iload dX0_readNumber_57 rfl ?_
    refine q_iload_n dX0_readNumber_59 rfl ?_
    refine q_icmp_ge (tgt := 95) dX0_readNumber_60 (by decide) (fun z => absurd z (nI_ge (show i < lim by omega) (by omega))) (fun _ => ?_)
    refine q_aload_n dX0_readNumber_63 rfl ?_
    refine q_cV (Y := mX0_seesDigit) (As := []) (st := []) (b := c) (ci := 2) vc_X0_seesDigit dX0_readNumber_64 ml_RX0_56 rfl fc rfl (Nat.le_of_ble_eq_true rfl) rfl (Nat.le_of_ble_eq_true rfl) (sp_seesDigit hG fc hs hp (by omega)) (fun v h1 hq => ?_) (fun E h1 hq => nomatch hq.1)
    obtain ⟨hv, rfl⟩ := hq
    cases hv
    show mv_rq l G mX0_readNumber (d + 1) 67 [some (.ref c), some (.int (nI lim)), some (.int (nI p0)), some (.int b), some (.int (nI a)), some (.int (nI i))] [.int (if 48 ≤ lk t p ∧ lk t p ≤ 57 then 1 else 0)] h _
    refine q_if_eq (tgt := 95) dX0_readNumber_67 (by decide) (fun c_67 => ?_) (fun c_67 => ?_)
    ·
      have k1 : ¬ isDg t p := fun z => by
        rw [if_pos z] at c_67
        exact absurd c_67 (by decide)
      have k2 : rdD t (n + 1) p a = (p, a) := by rw [rdD, if_neg k1]
      rw [k2]
      refine (sp_rdN_95 hG hX hc hd fc hs hp).mono fun o h1 hq => ?_
      rcases hq with ⟨k1, k2, rfl⟩ | ⟨k1, k2, rfl⟩
      · exact Or.inl ⟨k1, k2, mv_set_self fc⟩
      · exact Or.inr ⟨k1, k2, p, rfl⟩
    ·
      have k1 : isDg t p := by
        by_cases z : isDg t p
        · exact z
        · exact absurd (if_neg z) c_67
      have k2 : rdD t (n + 1) p a = rdD t n (p + 1) (a * 10 + (lk t p - 48)) := by rw [rdD, if_pos k1]
      have hlt : p < t.length := lk_lt (rfl : lk t p = lk t p) (by have := k1.1; omega)
      rw [k2]
      refine q_iload dX0_readNumber_70 rfl ?_
      refine q_bipush (v := 10) dX0_readNumber_72 (by decide) ?_
      refine q_imul dX0_readNumber_74 ?_
      refine q_aload_n dX0_readNumber_75 rfl ?_
      refine q_cV (Y := mX0_look) (As := []) (st := [.int ((nI a) * 10)]) (b := c) (ci := 2) vc_X0_look dX0_readNumber_76 ml_RX0_41 rfl fc rfl (Nat.le_of_ble_eq_true rfl) rfl (Nat.le_of_ble_eq_true rfl) (sp_look hG fc hs hp (by omega)) (fun v h1 hq => ?_) (fun E h1 hq => nomatch hq.1)
      obtain ⟨hv, rfl⟩ := hq
      cases hv
      show mv_rq l G mX0_readNumber (d + 1) 79 [some (.ref c), some (.int (nI lim)), some (.int (nI p0)), some (.int b), some (.int (nI a)), some (.int (nI i))] [.int (nI (lk t p)), .int ((nI a) * 10)] h _
      refine q_bipush (v := 48) dX0_readNumber_79 (by decide) ?_
      refine q_isub dX0_readNumber_81 ?_
      refine q_iadd dX0_readNumber_82 ?_
      refine q_istore dX0_readNumber_83 (Nat.le_of_ble_eq_true rfl) rfl ?_
      show mv_rq l G mX0_readNumber (d + 1) 85 [some (.ref c), some (.int (nI lim)), some (.int (nI p0)), some (.int b), some (.int (((nI a) * 10) + ((nI (lk t p)) - 48))), some (.int (nI i))] [] h _
      refine q_aload_n dX0_readNumber_85 rfl ?_
      refine q_cV (Y := mX0_skip) (As := []) (st := []) (b := c) (ci := 2) vc_X0_skip dX0_readNumber_86 ml_RX0_45 rfl fc rfl (Nat.le_of_ble_eq_true rfl) rfl (Nat.le_of_ble_eq_true rfl) (sp_skip hG fc hs hlt hc (by omega)) (fun v h1 hq => ?_) (fun E h1 hq => nomatch hq.1)
      obtain ⟨hv, rfl⟩ := hq
      cases hv
      show mv_rq l G mX0_readNumber (d + 1) 89 [some (.ref c), some (.int (nI lim)), some (.int (nI p0)), some (.int b), some (.int (((nI a) * 10) + ((nI (lk t p)) - 48))), some (.int (nI i))] [] (mv_set h c (curE s (p + 1) ill)) _
      refine q_iinc dX0_readNumber_89 rfl rfl ?_
      show mv_rq l G mX0_readNumber (d + 1) 92 [some (.ref c), some (.int (nI lim)), some (.int (nI p0)), some (.int b), some (.int (((nI a) * 10) + ((nI (lk t p)) - 48))), some (.int ((nI i) + 1))] [] (mv_set h c (curE s (p + 1) ill)) _
      refine q_goto (tgt := 57) dX0_readNumber_92 (by decide) ?_
      rw [dgI _ k1.1, accI, nI_1]
      have hn := ih (i + 1) (p + 1) (a * 10 + (lk t p - 48)) (mv_set h c (curE s (p + 1) ill)) (by omega) mv_set_s (hs.set fc (show (2 : Nat) ≠ 0 by decide) (show (2 : Nat) ≠ 1000 by decide)) hlt
      simp only [mv_set_set] at hn
      exact hn
set_option maxRecDepth 100000 in
set_option maxHeartbeats 4000000 in
theorem sp_rdN_27 {l : Launch} {G : mv_G} {d : Nat} (hG : mv_ok G) (hX : mv_okX l G) {c s : Nat} {t : List Nat} {ill : Int32} (hc : G.2.2.1 ≤ c) (hd : 9 ≤ d + 1) {lim p0 : Nat} {b : Int32} {p : Nat} {h : mv_H} (hl : lim < 100) (fc : h.2.2 c = some (curE s p ill)) (hs : mv_str G h s t) (hp : p ≤ t.length) : mv_rq l G mX0_readNumber (d + 1) 27 [some (.ref c), some (.int (nI lim)), some (.int (nI p0)), some (.int b), none, none] [] h (fun o h1 => ((¬ isDg t p ∨ lk t p = 48) ∧ o = .inr (xIA, h.1) ∧ thr (mv_set h c (curE s p (nI p))) = h1) ∨ (¬ (¬ isDg t p ∨ lk t p = 48) ∧ ((¬ isDg t (rdD t lim p 0).1 ∧ o = .inl (some (.int (if b = 0 then nI (rdD t lim p 0).2 else -(nI (rdD t lim p 0).2)))) ∧ mv_set h c (curE s (rdD t lim p 0).1 ill) = h1) ∨ (isDg t (rdD t lim p 0).1 ∧ o = .inr (xIA, h.1) ∧ ∃ p'', thr (mv_set h c (curE s p'' (nI p0))) = h1)))) := by
  obtain ⟨q, x, y, f, fs, fq, h3, h4, h5⟩ := mv_str_at hs
  refine q_aload_n dX0_readNumber_27 rfl ?_
  refine q_cV (Y := mX0_seesDigit) (As := []) (st := []) (b := c) (ci := 2) vc_X0_seesDigit dX0_readNumber_28 ml_RX0_56 rfl fc rfl (Nat.le_of_ble_eq_true rfl) rfl (Nat.le_of_ble_eq_true rfl) (sp_seesDigit hG fc hs hp (by omega)) (fun v h1 hq => ?_) (fun E h1 hq => nomatch hq.1)
  obtain ⟨hv, rfl⟩ := hq
  cases hv
  show mv_rq l G mX0_readNumber (d + 1) 31 [some (.ref c), some (.int (nI lim)), some (.int (nI p0)), some (.int b), none, none] [.int (if 48 ≤ lk t p ∧ lk t p ≤ 57 then 1 else 0)] h _
  refine q_if_eq (tgt := 43) dX0_readNumber_31 (by decide) (fun c_31 => ?_) (fun c_31 => ?_)
  ·
    have k0 : ¬ isDg t p ∨ lk t p = 48 := Or.inl fun z => by
      rw [if_pos z] at c_31
      exact absurd c_31 (by decide)
    refine q_aload_n dX0_readNumber_43 rfl ?_
    refine q_aload_n dX0_readNumber_44 rfl ?_
    refine q_getf (k := 1) (T := TX0) (C0 := RX0) (N := 3) (ci := 2) dX0_readNumber_45 fl_RX0_17 rfl uin_RX0 (by decide) rfl fc rfl ?_
    refine q_cV (Y := mX0_refuse) (As := [.int (nI p)]) (st := []) (b := c) (ci := 2) vc_X0_refuse dX0_readNumber_48 ml_RX0_48 rfl fc rfl (Nat.le_of_ble_eq_true rfl) rfl (Nat.le_of_ble_eq_true rfl) (sp_refuse hG hX fc hc (by omega)) (fun v h1 hq => ?_) (fun E h1 hq => by
      obtain ⟨hv, rfl⟩ := hq
      cases hv
      exact q_xout (fun z hz => nomatch hz) (Or.inl ⟨k0, rfl, rfl⟩))
    exact absurd hq.1 (by intro z; cases z)
  ·
    have k1 : isDg t p := by
      by_cases z : isDg t p
      · exact z
      · exact absurd (if_neg z) c_31
    refine q_aload_n dX0_readNumber_34 rfl ?_
    refine q_cV (Y := mX0_look) (As := []) (st := []) (b := c) (ci := 2) vc_X0_look dX0_readNumber_35 ml_RX0_41 rfl fc rfl (Nat.le_of_ble_eq_true rfl) rfl (Nat.le_of_ble_eq_true rfl) (sp_look hG fc hs hp (by omega)) (fun v h1 hq => ?_) (fun E h1 hq => nomatch hq.1)
    obtain ⟨hv, rfl⟩ := hq
    cases hv
    show mv_rq l G mX0_readNumber (d + 1) 38 [some (.ref c), some (.int (nI lim)), some (.int (nI p0)), some (.int b), none, none] [.int (nI (lk t p))] h _
    refine q_bipush (v := 48) dX0_readNumber_38 (by decide) ?_
    refine q_icmp_ne (tgt := 51) dX0_readNumber_40 (by decide) (fun c_40 => ?_) (fun c_40 => ?_)
    ·
      have k0 : ¬ (¬ isDg t p ∨ lk t p = 48) := fun z => z.elim (fun q => q k1) (fun q => c_40 (by rw [q]; rfl))
      refine q_iconst (v := 0) dX0_readNumber_51 (by decide) ?_
      refine q_istore dX0_readNumber_52 (Nat.le_of_ble_eq_true rfl) rfl ?_
      show mv_rq l G mX0_readNumber (d + 1) 54 [some (.ref c), some (.int (nI lim)), some (.int (nI p0)), some (.int b), some (.int 0), none] [] h _
      refine q_iconst (v := 0) dX0_readNumber_54 (by decide) ?_
      refine q_istore dX0_readNumber_55 (Nat.le_of_ble_eq_true rfl) rfl ?_
      show mv_rq l G mX0_readNumber (d + 1) 57 [some (.ref c), some (.int (nI lim)), some (.int (nI p0)), some (.int b), some (.int 0), some (.int 0)] [] h _
      exact (sp_rdN_57 hG hX hc hd hl lim 0 p 0 h (by omega) fc hs hp).mono fun o h1 hq => Or.inr ⟨k0, hq⟩
    ·
      have k0 : ¬ isDg t p ∨ lk t p = 48 := Or.inr ((neq (h4 p) (by decide)).mp c_40)
      refine q_aload_n dX0_readNumber_43 rfl ?_
      refine q_aload_n dX0_readNumber_44 rfl ?_
      refine q_getf (k := 1) (T := TX0) (C0 := RX0) (N := 3) (ci := 2) dX0_readNumber_45 fl_RX0_17 rfl uin_RX0 (by decide) rfl fc rfl ?_
      refine q_cV (Y := mX0_refuse) (As := [.int (nI p)]) (st := []) (b := c) (ci := 2) vc_X0_refuse dX0_readNumber_48 ml_RX0_48 rfl fc rfl (Nat.le_of_ble_eq_true rfl) rfl (Nat.le_of_ble_eq_true rfl) (sp_refuse hG hX fc hc (by omega)) (fun v h1 hq => ?_) (fun E h1 hq => by
      obtain ⟨hv, rfl⟩ := hq
      cases hv
      exact q_xout (fun z hz => nomatch hz) (Or.inl ⟨k0, rfl, rfl⟩))
      exact absurd hq.1 (by intro z; cases z)
set_option maxRecDepth 100000 in
set_option maxHeartbeats 4000000 in
theorem sp_readNumber {l : Launch} {G : mv_G} {d : Nat} {h : mv_H} (hG : mv_ok G) (hX : mv_okX l G) {c s : Nat} {t : List Nat} {p : Nat} {ill : Int32} (fc : h.2.2 c = some (curE s p ill)) (hs : mv_str G h s t) {lim : Nat} (hl : lim < 100) (hp : p ≤ t.length) (hc : G.2.2.1 ≤ c) (hd : 9 ≤ d) : mv_rq l G mX0_readNumber d 0 (mv_in [.ref c, .int (nI lim)] 6) [] h (mvQn h c s t ill (rdN t lim p)) := by
  obtain ⟨d, rfl⟩ : ∃ e, d = e + 1 := ⟨d - 1, by omega⟩
  obtain ⟨q, x, y, f, fs, fq, h3, h4, h5⟩ := mv_str_at hs
  show mv_rq l G mX0_readNumber (d + 1) 0 [some (.ref c), some (.int (nI lim)), none, none, none, none] [] h _
  refine q_aload_n dX0_readNumber_0 rfl ?_
  refine q_getf (k := 1) (T := TX0) (C0 := RX0) (N := 3) (ci := 2) dX0_readNumber_1 fl_RX0_17 rfl uin_RX0 (by decide) rfl fc rfl ?_
  refine q_istore_n dX0_readNumber_4 (Nat.le_of_ble_eq_true rfl) rfl ?_
  show mv_rq l G mX0_readNumber (d + 1) 5 [some (.ref c), some (.int (nI lim)), some (.int (nI p)), none, none, none] [] h _
  refine q_aload_n dX0_readNumber_5 rfl ?_
  refine q_bipush (v := 45) dX0_readNumber_6 (by decide) ?_
  refine q_cV (Y := mX0_passes) (As := [.int 45]) (st := []) (b := c) (ci := 2) vc_X0_passes dX0_readNumber_8 ml_RX0_60 rfl fc rfl (Nat.le_of_ble_eq_true rfl) rfl (Nat.le_of_ble_eq_true rfl) (sp_passes hG (ch := 45) fc hs hp (by decide) (by decide) hc (by omega)) (fun v h1 hq => ?_) (fun E h1 hq => hq.elim (fun z => nomatch z.2.1) (fun z => nomatch z.2.1))
  rcases hq with ⟨heq, hv, rfl⟩ | ⟨hne, hv, rfl⟩
  · cases hv
    have hlt : p < t.length := lk_lt heq (by decide)
    show mv_rq l G mX0_readNumber (d + 1) 11 [some (.ref c), some (.int (nI lim)), some (.int (nI p)), none, none, none] [.int 1] (mv_set h c (curE s (p + 1) ill)) _
    refine q_istore_n dX0_readNumber_11 (Nat.le_of_ble_eq_true rfl) rfl ?_
    show mv_rq l G mX0_readNumber (d + 1) 12 [some (.ref c), some (.int (nI lim)), some (.int (nI p)), some (.int 1), none, none] [] (mv_set h c (curE s (p + 1) ill)) _
    refine q_iload_n dX0_readNumber_12 rfl ?_
    refine q_if_ne (tgt := 27) dX0_readNumber_13 (by decide) (fun _ => ?_) (fun z => absurd z (by decide))
    refine (sp_rdN_27 hG hX hc hd hl mv_set_s (hs.set fc (show (2 : Nat) ≠ 0 by decide) (show (2 : Nat) ≠ 1000 by decide)) hlt).mono fun o h1 hq => ?_
    have e0 : rdN t lim p = if ¬ isDg t (p + 1) ∨ lk t (p + 1) = 48 then .inr (p + 1) else if isDg t (rdD t lim (p + 1) 0).1 then .inr p else .inl (-(nI (rdD t lim (p + 1) 0).2), (rdD t lim (p + 1) 0).1) := by
      simp [rdN, heq]
    rw [e0]
    simp only [mv_set_set] at hq
    rcases hq with ⟨k0, k1, rfl⟩ | ⟨k0, ⟨k2, k1, rfl⟩ | ⟨k2, k1, p9, rfl⟩⟩
    · exact Or.inr ⟨p + 1, p + 1, by rw [if_pos k0], k1, rfl⟩
    · refine Or.inl ⟨_, _, by rw [if_neg k0, if_neg k2], rdD_le hlt, ?_, rfl⟩
      rw [k1, if_neg (by decide)]
    · exact Or.inr ⟨p, p9, by rw [if_neg k0, if_pos k2], k1, rfl⟩
  · cases hv
    show mv_rq l G mX0_readNumber (d + 1) 11 [some (.ref c), some (.int (nI lim)), some (.int (nI p)), none, none, none] [.int 0] h _
    refine q_istore_n dX0_readNumber_11 (Nat.le_of_ble_eq_true rfl) rfl ?_
    show mv_rq l G mX0_readNumber (d + 1) 12 [some (.ref c), some (.int (nI lim)), some (.int (nI p)), some (.int 0), none, none] [] h _
    refine q_iload_n dX0_readNumber_12 rfl ?_
    refine q_if_ne (tgt := 27) dX0_readNumber_13 (by decide) (fun z => absurd (by decide) z) (fun _ => ?_)
    refine q_aload_n dX0_readNumber_16 rfl ?_
    refine q_bipush (v := 48) dX0_readNumber_17 (by decide) ?_
    refine q_cV (Y := mX0_passes) (As := [.int 48]) (st := []) (b := c) (ci := 2) vc_X0_passes dX0_readNumber_19 ml_RX0_60 rfl fc rfl (Nat.le_of_ble_eq_true rfl) rfl (Nat.le_of_ble_eq_true rfl) (sp_passes hG (ch := 48) fc hs hp (by decide) (by decide) hc (by omega)) (fun v h1 hq => ?_) (fun E h1 hq => hq.elim (fun z => nomatch z.2.1) (fun z => nomatch z.2.1))
    rcases hq with ⟨heq, hv, rfl⟩ | ⟨hn8, hv, rfl⟩
    · cases hv
      show mv_rq l G mX0_readNumber (d + 1) 22 [some (.ref c), some (.int (nI lim)), some (.int (nI p)), some (.int 0), none, none] [.int 1] (mv_set h c (curE s (p + 1) ill)) _
      refine q_if_eq (tgt := 27) dX0_readNumber_22 (by decide) (fun z => absurd z (by decide)) (fun _ => ?_)
      refine q_iconst (v := 0) dX0_readNumber_25 (by decide) ?_
      refine q_iret (ty := .int) dX0_readNumber_26 rfl rfl (Or.inl ⟨0, p + 1, ?_, lk_lt heq (by decide), rfl, rfl⟩)
      simp [rdN, heq]
    · cases hv
      show mv_rq l G mX0_readNumber (d + 1) 22 [some (.ref c), some (.int (nI lim)), some (.int (nI p)), some (.int 0), none, none] [.int 0] h _
      refine q_if_eq (tgt := 27) dX0_readNumber_22 (by decide) (fun _ => ?_) (fun z => absurd (rfl) z)
      refine (sp_rdN_27 hG hX hc hd hl fc hs hp).mono fun o h1 hq => ?_
      have e0 : rdN t lim p = if ¬ isDg t p ∨ lk t p = 48 then .inr p else if isDg t (rdD t lim p 0).1 then .inr p else .inl (nI (rdD t lim p 0).2, (rdD t lim p 0).1) := by
        simp [rdN, hne, hn8]
      rw [e0]
      rcases hq with ⟨k0, k1, rfl⟩ | ⟨k0, ⟨k2, k1, rfl⟩ | ⟨k2, k1, p9, rfl⟩⟩
      · exact Or.inr ⟨p, p, by rw [if_pos k0], k1, rfl⟩
      · refine Or.inl ⟨_, _, by rw [if_neg k0, if_neg k2], rdD_le hp, ?_, rfl⟩
        rw [k1, if_pos rfl]
      · exact Or.inr ⟨p, p9, by rw [if_neg k0, if_pos k2], k1, rfl⟩
