abbrev isLt (t : List Nat) (p : Nat) : Prop := 97 ≤ lk t p ∧ lk t p ≤ 122
def nmL (t : List Nat) : Nat → Nat → Nat
  | 0, p => p
  | k + 1, p => if isLt t p then nmL t k (p + 1) else p
def rdM (t : List Nat) (p : Nat) : Nat ⊕ Nat := if ¬ isLt t p then .inr p else if isLt t (nmL t 8 p) then .inr p else .inl (nmL t 8 p)
theorem isLt_lt {t : List Nat} {p : Nat} (h : isLt t p) : p < t.length := lk_lt (rfl : lk t p = lk t p) (by have := h.1; omega)
theorem nmL_le {t : List Nat} : ∀ {k p : Nat}, p ≤ t.length → nmL t k p ≤ t.length
  | 0, _, h => h
  | k + 1, p, h => by
    unfold nmL
    split
    next e => exact nmL_le (isLt_lt e)
    next e => exact h
theorem nmL_ge {t : List Nat} : ∀ {k p : Nat}, p ≤ nmL t k p
  | 0, _ => Nat.le_refl _
  | k + 1, p => by
    unfold nmL
    split
    next e => exact Nat.le_trans (Nat.le_succ p) nmL_ge
    next e => exact Nat.le_refl _
abbrev mvQm (G : mv_G) (h : mv_H) (c s : Nat) (t : List Nat) (ill : Int32) (b : Nat) (r : Nat ⊕ Nat) (o : mv_O) (h1 : mv_H) : Prop :=
  (∃ p', r = .inl p' ∧ p' ≤ t.length ∧ b ≤ p' ∧ ∃ a, o = .inl (some (.ref a)) ∧ mv_str G h1 a ((t.drop b).take (p' - b)) ∧ mv_made (mv_set h c (curE s p' ill)) h1) ∨ (∃ w p'', r = .inr w ∧ o = .inr (xIA, h.1) ∧ thr (mv_set h c (curE s p'' (nI w))) = h1)
set_option maxRecDepth 100000 in
set_option maxHeartbeats 4000000 in
theorem sp_nm_45 {l : Launch} {G : mv_G} {d : Nat} (hG : mv_ok G) (hX : mv_okX l G) {c s : Nat} {t : List Nat} {ill : Int32} (hc : G.2.2.1 ≤ c) (hd : 9 ≤ d + 1) (ht : t.length ≤ 160) {b : Nat} (hb0 : b ≠ 0) {i p : Nat} {h : mv_H} (fc : h.2.2 c = some (curE s p ill)) (hs : mv_str G h s t) (hv : mv_env G h) (hp : p ≤ t.length) (hbp : b ≤ p) (hp8 : p ≤ b + 8) : mv_rq l G mX0_readName (d + 1) 45 [some (.ref c), some (.int (nI b)), some (.int (nI i))] [] h (mvQm G h c s t ill b (if isLt t p then .inr b else .inl p)) := by
  obtain ⟨q, x, y, f, fs, fq, h3, h4, h5⟩ := mv_str_at hs
  obtain ⟨⟨z, z1, z2⟩, w2, b2⟩ := hv
  refine q_aload_n dX0_readName_45 rfl ?_
  refine q_cV (Y := mX0_seesLetter) (As := []) (st := []) (b := c) (ci := 2) vc_X0_seesLetter dX0_readName_46 ml_RX0_68 rfl fc rfl (Nat.le_of_ble_eq_true rfl) rfl (Nat.le_of_ble_eq_true rfl) (sp_seesLetter hG fc hs hp (by omega)) (fun v h1 hq => ?_) (fun E h1 hq => nomatch hq.1)
  obtain ⟨hv, rfl⟩ := hq
  cases hv
  show mv_rq l G mX0_readName (d + 1) 49 [some (.ref c), some (.int (nI b)), some (.int (nI i))] [.int (if 97 ≤ lk t p ∧ lk t p ≤ 122 then 1 else 0)] h _
  refine q_if_eq (tgt := 57) dX0_readName_49 (by decide) (fun c_49 => ?_) (fun c_49 => ?_)
  ·
    have k1 : ¬ isLt t p := fun z => by
      rw [if_pos z] at c_49
      exact absurd c_49 (by decide)
    refine q_aload_n dX0_readName_57 rfl ?_
    refine q_getf (k := 0) (T := TX0) (C0 := RX0) (N := 3) (ci := 2) dX0_readName_58 fl_RX0_11 rfl uin_RX0 (by decide) rfl fc rfl ?_
    refine q_iload_n dX0_readName_61 rfl ?_
    refine q_aload_n dX0_readName_62 rfl ?_
    refine q_getf (k := 1) (T := TX0) (C0 := RX0) (N := 3) (ci := 2) dX0_readName_63 fl_RX0_17 rfl uin_RX0 (by decide) rfl fc rfl ?_
    refine q_cV (Y := mJ0_substring_37a41) (As := [.int (nI b), .int (nI p)]) (st := []) (b := s) (ci := 0) vc_J0_substring_37a41 dX0_readName_66 ml_RX0_64 rfl fs rfl (Nat.le_of_ble_eq_true rfl) rfl (Nat.le_of_ble_eq_true rfl) (sp_substring hG hs ht z1 z2 w2 b2 (i := b) (e := p) hbp hp hb0 (by omega) (by omega)) (fun v h1 hq => ?_) (fun E h1 hq => by obtain ⟨r, hv8, _⟩ := hq; cases hv8)
    obtain ⟨r, hv8, hm⟩ := hq
    cases hv8
    show mv_rq l G mX0_readName (d + 1) 69 [some (.ref c), some (.int (nI b)), some (.int (nI i))] [.ref r] h1 _
    exact q_aret (rt := (.object "java/lang/String")) dX0_readName_69 rfl (Or.inl ⟨_, rfl⟩) (Or.inr ⟨_, rfl⟩) (Or.inl ⟨p, by rw [if_neg k1], hp, hbp, r, rfl, hm.1, by rw [mv_set_self fc]; exact hm.2⟩)
  ·
    have k1 : isLt t p := by
      by_cases z : isLt t p
      · exact z
      · exact absurd (if_neg z) c_49
    refine q_aload_n dX0_readName_52 rfl ?_
    refine q_iload_n dX0_readName_53 rfl ?_
    refine q_cV (Y := mX0_refuse) (As := [.int (nI b)]) (st := []) (b := c) (ci := 2) vc_X0_refuse dX0_readName_54 ml_RX0_48 rfl fc rfl (Nat.le_of_ble_eq_true rfl) rfl (Nat.le_of_ble_eq_true rfl) (sp_refuse hG hX fc hc (by omega)) (fun v h1 hq => ?_) (fun E h1 hq => by
      obtain ⟨hv9, rfl⟩ := hq
      cases hv9
      exact q_xout (fun z hz => nomatch hz) (Or.inr ⟨b, p, by rw [if_pos k1], rfl, rfl⟩))
    exact absurd hq.1 (by intro z; cases z)
set_option maxRecDepth 100000 in
set_option maxHeartbeats 4000000 in
theorem sp_nm_22 {l : Launch} {G : mv_G} {d : Nat} (hG : mv_ok G) (hX : mv_okX l G) {c s : Nat} {t : List Nat} {ill : Int32} (hc : G.2.2.1 ≤ c) (hd : 9 ≤ d + 1) (ht : t.length ≤ 160) {b : Nat} (hb0 : b ≠ 0) : ∀ (k i p : Nat) (h : mv_H), i + k = 8 → h.2.2 c = some (curE s p ill) → mv_str G h s t → mv_env G h → p ≤ t.length → b ≤ p ∧ p ≤ b + i → mv_rq l G mX0_readName (d + 1) 22 [some (.ref c), some (.int (nI b)), some (.int (nI i))] [] h (mvQm G h c s t ill b (if isLt t (nmL t k p) then .inr b else .inl (nmL t k p))) := by
  intro k
  induction k with
  | zero =>
    intro i p h hi fc hs hv hp hbp
    obtain ⟨q, x, y, f, fs, fq, h3, h4, h5⟩ := mv_str_at hs
    refine q_iload_n dX0_readName_22 rfl ?_
    refine q_bipush (v := 8) dX0_readName_23 (by decide) ?_
    refine q_icmp_ge (tgt := 45) dX0_readName_25 (by decide) (fun _ => ?_) (fun z => absurd ((nI_leI (a := 8) (b := i) (by omega) (by omega)).mpr (by omega)) z)
    exact sp_nm_45 (p := p) hG hX hc hd ht hb0 fc hs hv hp hbp.1 (by omega)
  | succ k ih =>
    intro i p h hi fc hs hv hp hbp
    obtain ⟨q, x, y, f, fs, fq, h3, h4, h5⟩ := mv_str_at hs
    refine q_iload_n dX0_readName_22 rfl ?_
    refine q_bipush (v := 8) dX0_readName_23 (by decide) ?_
    refine q_icmp_ge (tgt := 45) dX0_readName_25 (by decide) (fun z => absurd z (fun z => absurd ((nI_leI (a := 8) (b := i) (by omega) (by omega)).mp z) (by omega))) (fun _ => ?_)
    refine q_aload_n dX0_readName_28 rfl ?_
    refine q_cV (Y := mX0_seesLetter) (As := []) (st := []) (b := c) (ci := 2) vc_X0_seesLetter dX0_readName_29 ml_RX0_68 rfl fc rfl (Nat.le_of_ble_eq_true rfl) rfl (Nat.le_of_ble_eq_true rfl) (sp_seesLetter hG fc hs hp (by omega)) (fun v h1 hq => ?_) (fun E h1 hq => nomatch hq.1)
    obtain ⟨hv, rfl⟩ := hq
    cases hv
    show mv_rq l G mX0_readName (d + 1) 32 [some (.ref c), some (.int (nI b)), some (.int (nI i))] [.int (if 97 ≤ lk t p ∧ lk t p ≤ 122 then 1 else 0)] h _
    refine q_if_eq (tgt := 45) dX0_readName_32 (by decide) (fun c_32 => ?_) (fun c_32 => ?_)
    ·
      have k1 : ¬ isLt t p := fun z => by
        rw [if_pos z] at c_32
        exact absurd c_32 (by decide)
      have e1 : nmL t (k + 1) p = p := by unfold nmL; rw [if_neg k1]
      rw [e1]
      exact sp_nm_45 (p := p) hG hX hc hd ht hb0 fc hs hv hp hbp.1 (by omega)
    ·
      have k1 : isLt t p := by
        by_cases z : isLt t p
        · exact z
        · exact absurd (if_neg z) c_32
      have e1 : nmL t (k + 1) p = nmL t k (p + 1) := by rw [nmL, if_pos k1]
      rw [e1]
      refine q_aload_n dX0_readName_35 rfl ?_
      refine q_cV (Y := mX0_skip) (As := []) (st := []) (b := c) (ci := 2) vc_X0_skip dX0_readName_36 ml_RX0_45 rfl fc rfl (Nat.le_of_ble_eq_true rfl) rfl (Nat.le_of_ble_eq_true rfl) (sp_skip hG fc hs (isLt_lt k1) hc (by omega)) (fun v h1 hq => ?_) (fun E h1 hq => nomatch hq.1)
      obtain ⟨hv, rfl⟩ := hq
      cases hv
      show mv_rq l G mX0_readName (d + 1) 39 [some (.ref c), some (.int (nI b)), some (.int (nI i))] [] (mv_set h c (curE s (p + 1) ill)) _
      refine q_iinc dX0_readName_39 rfl rfl ?_
      show mv_rq l G mX0_readName (d + 1) 42 [some (.ref c), some (.int (nI b)), some (.int ((nI i) + 1))] [] (mv_set h c (curE s (p + 1) ill)) _
      refine q_goto (tgt := 22) dX0_readName_42 (by decide) ?_
      rw [nI_1]
      have hn := ih (i + 1) (p + 1) (mv_set h c (curE s (p + 1) ill)) (by omega) mv_set_s (hs.set fc (show (2 : Nat) ≠ 0 by decide) (show (2 : Nat) ≠ 1000 by decide)) (hv.set fc (show (2 : Nat) ≠ 0 by decide) (show (2 : Nat) ≠ 1000 by decide)) (isLt_lt k1) (by omega)
      refine hn.mono fun o h1 hq => ?_
      simp only [mvQm, mv_set_set] at hq ⊢
      exact hq
set_option maxRecDepth 100000 in
set_option maxHeartbeats 4000000 in
theorem sp_readName {l : Launch} {G : mv_G} {d : Nat} {h : mv_H} (hG : mv_ok G) (hX : mv_okX l G) {c s : Nat} {t : List Nat} {p : Nat} {ill : Int32} (fc : h.2.2 c = some (curE s p ill)) (hs : mv_str G h s t) (hv : mv_env G h) (ht : t.length ≤ 160) (hp0 : p ≠ 0) (hp : p ≤ t.length) (hc : G.2.2.1 ≤ c) (hd : 9 ≤ d) : mv_rq l G mX0_readName d 0 (mv_in [.ref c] 3) [] h (mvQm G h c s t ill p (rdM t p)) := by
  obtain ⟨d, rfl⟩ : ∃ e, d = e + 1 := ⟨d - 1, by omega⟩
  obtain ⟨q, x, y, f, fs, fq, h3, h4, h5⟩ := mv_str_at hs
  show mv_rq l G mX0_readName (d + 1) 0 [some (.ref c), none, none] [] h _
  refine q_aload_n dX0_readName_0 rfl ?_
  refine q_getf (k := 1) (T := TX0) (C0 := RX0) (N := 3) (ci := 2) dX0_readName_1 fl_RX0_17 rfl uin_RX0 (by decide) rfl fc rfl ?_
  refine q_istore_n dX0_readName_4 (Nat.le_of_ble_eq_true rfl) rfl ?_
  show mv_rq l G mX0_readName (d + 1) 5 [some (.ref c), some (.int (nI p)), none] [] h _
  refine q_aload_n dX0_readName_5 rfl ?_
  refine q_cV (Y := mX0_seesLetter) (As := []) (st := []) (b := c) (ci := 2) vc_X0_seesLetter dX0_readName_6 ml_RX0_68 rfl fc rfl (Nat.le_of_ble_eq_true rfl) rfl (Nat.le_of_ble_eq_true rfl) (sp_seesLetter hG fc hs hp (by omega)) (fun v h1 hq => ?_) (fun E h1 hq => nomatch hq.1)
  obtain ⟨hv, rfl⟩ := hq
  cases hv
  show mv_rq l G mX0_readName (d + 1) 9 [some (.ref c), some (.int (nI p)), none] [.int (if 97 ≤ lk t p ∧ lk t p ≤ 122 then 1 else 0)] h _
  refine q_if_ne (tgt := 20) dX0_readName_9 (by decide) (fun c_9 => ?_) (fun c_9 => ?_)
  ·
    have k1 : isLt t p := by
      by_cases z : isLt t p
      · exact z
      · exact absurd (if_neg z) c_9
    have e1 : rdM t p = if isLt t (nmL t 8 p) then .inr p else .inl (nmL t 8 p) := by unfold rdM; rw [if_neg (fun z => z k1)]
    rw [e1]
    refine q_iconst (v := 0) dX0_readName_20 (by decide) ?_
    refine q_istore_n dX0_readName_21 (Nat.le_of_ble_eq_true rfl) rfl ?_
    show mv_rq l G mX0_readName (d + 1) 22 [some (.ref c), some (.int (nI p)), some (.int 0)] [] h _
    exact sp_nm_22 hG hX hc hd ht hp0 8 0 p h rfl fc hs hv hp ⟨Nat.le_refl _, by omega⟩
  ·
    have k1 : ¬ isLt t p := fun z => by
      rw [if_pos z] at c_9
      exact absurd c_9 (by decide)
    refine q_aload_n dX0_readName_12 rfl ?_
    refine q_aload_n dX0_readName_13 rfl ?_
    refine q_getf (k := 1) (T := TX0) (C0 := RX0) (N := 3) (ci := 2) dX0_readName_14 fl_RX0_17 rfl uin_RX0 (by decide) rfl fc rfl ?_
    refine q_cV (Y := mX0_refuse) (As := [.int (nI p)]) (st := []) (b := c) (ci := 2) vc_X0_refuse dX0_readName_17 ml_RX0_48 rfl fc rfl (Nat.le_of_ble_eq_true rfl) rfl (Nat.le_of_ble_eq_true rfl) (sp_refuse hG hX fc hc (by omega)) (fun v h1 hq => ?_) (fun E h1 hq => by
      obtain ⟨hv9, rfl⟩ := hq
      cases hv9
      exact q_xout (fun z hz => nomatch hz) (Or.inr ⟨p, p, by unfold rdM; rw [if_pos k1], rfl, rfl⟩))
    exact absurd hq.1 (by intro z; cases z)
