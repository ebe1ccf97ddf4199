theorem dX0_readString_0 : decode cX0_readString 0 = .ok (.aload_n 0, 1) := by decide +kernel
theorem dX0_readString_1 : decode cX0_readString 1 = .ok (.getfield 17, 3) := by decide +kernel
theorem dX0_readString_4 : decode cX0_readString 4 = .ok (.istore_n 3, 1) := by decide +kernel
theorem dX0_readString_5 : decode cX0_readString 5 = .ok (.aload_n 0, 1) := by decide +kernel
theorem dX0_readString_6 : decode cX0_readString 6 = .ok (.iload_n 1, 1) := by decide +kernel
theorem dX0_readString_7 : decode cX0_readString 7 = .ok (.invokevirtual 52, 3) := by decide +kernel
theorem dX0_readString_10 : decode cX0_readString 10 = .ok (.iconst 0, 1) := by decide +kernel
theorem dX0_readString_11 : decode cX0_readString 11 = .ok (.istore 4, 2) := by decide +kernel
theorem dX0_readString_13 : decode cX0_readString 13 = .ok (.iload 4, 2) := by decide +kernel
theorem dX0_readString_15 : decode cX0_readString 15 = .ok (.bipush 8, 2) := by decide +kernel
theorem dX0_readString_17 : decode cX0_readString 17 = .ok (.if_icmp .gt 56, 3) := by decide +kernel
theorem dX0_readString_20 : decode cX0_readString 20 = .ok (.aload_n 0, 1) := by decide +kernel
theorem dX0_readString_21 : decode cX0_readString 21 = .ok (.invokevirtual 41, 3) := by decide +kernel
theorem dX0_readString_24 : decode cX0_readString 24 = .ok (.iload_n 1, 1) := by decide +kernel
theorem dX0_readString_25 : decode cX0_readString 25 = .ok (.if_icmp .eq 48, 3) := by decide +kernel
theorem dX0_readString_28 : decode cX0_readString 28 = .ok (.aload_n 0, 1) := by decide +kernel
theorem dX0_readString_29 : decode cX0_readString 29 = .ok (.invokevirtual 41, 3) := by decide +kernel
theorem dX0_readString_32 : decode cX0_readString 32 = .ok (.ifCond .eq 11, 3) := by decide +kernel
theorem dX0_readString_35 : decode cX0_readString 35 = .ok (.aload_n 0, 1) := by decide +kernel
theorem dX0_readString_36 : decode cX0_readString 36 = .ok (.invokevirtual 41, 3) := by decide +kernel
theorem dX0_readString_39 : decode cX0_readString 39 = .ok (.iload_n 2, 1) := by decide +kernel
theorem dX0_readString_40 : decode cX0_readString 40 = .ok (.if_icmp .ne 11, 3) := by decide +kernel
theorem dX0_readString_43 : decode cX0_readString 43 = .ok (.aload_n 0, 1) := by decide +kernel
theorem dX0_readString_44 : decode cX0_readString 44 = .ok (.aload_n 0, 1) := by decide +kernel
theorem dX0_readString_45 : decode cX0_readString 45 = .ok (.getfield 17, 3) := by decide +kernel
theorem dX0_readString_48 : decode cX0_readString 48 = .ok (.invokevirtual 48, 3) := by decide +kernel
theorem dX0_readString_51 : decode cX0_readString 51 = .ok (.iload 4, 2) := by decide +kernel
theorem dX0_readString_53 : decode cX0_readString 53 = .ok (.bipush 8, 2) := by decide +kernel
theorem dX0_readString_55 : decode cX0_readString 55 = .ok (.if_icmp .ne 8, 3) := by decide +kernel
theorem dX0_readString_58 : decode cX0_readString 58 = .ok (.aload_n 0, 1) := by decide +kernel
theorem dX0_readString_59 : decode cX0_readString 59 = .ok (.iload_n 3, 1) := by decide +kernel
theorem dX0_readString_60 : decode cX0_readString 60 = .ok (.invokevirtual 48, 3) := by decide +kernel
theorem dX0_readString_63 : decode cX0_readString 63 = .ok (.aload_n 0, 1) := by decide +kernel
theorem dX0_readString_64 : decode cX0_readString 64 = .ok (.invokevirtual 45, 3) := by decide +kernel
theorem dX0_readString_67 : decode cX0_readString 67 = .ok (.iinc 4 1, 3) := by decide +kernel
theorem dX0_readString_70 : decode cX0_readString 70 = .ok (.goto (-57), 3) := by decide +kernel
theorem dX0_readString_73 : decode cX0_readString 73 = .ok (.aload_n 0, 1) := by decide +kernel
theorem dX0_readString_74 : decode cX0_readString 74 = .ok (.iload_n 1, 1) := by decide +kernel
theorem dX0_readString_75 : decode cX0_readString 75 = .ok (.invokevirtual 52, 3) := by decide +kernel
theorem dX0_readString_78 : decode cX0_readString 78 = .ok (.aload_n 0, 1) := by decide +kernel
theorem dX0_readString_79 : decode cX0_readString 79 = .ok (.getfield 11, 3) := by decide +kernel
theorem dX0_readString_82 : decode cX0_readString 82 = .ok (.iload_n 3, 1) := by decide +kernel
theorem dX0_readString_83 : decode cX0_readString 83 = .ok (.iconst 1, 1) := by decide +kernel
theorem dX0_readString_84 : decode cX0_readString 84 = .ok (.iadd, 1) := by decide +kernel
theorem dX0_readString_85 : decode cX0_readString 85 = .ok (.aload_n 0, 1) := by decide +kernel
theorem dX0_readString_86 : decode cX0_readString 86 = .ok (.getfield 17, 3) := by decide +kernel
theorem dX0_readString_89 : decode cX0_readString 89 = .ok (.iconst 1, 1) := by decide +kernel
theorem dX0_readString_90 : decode cX0_readString 90 = .ok (.isub, 1) := by decide +kernel
theorem dX0_readString_91 : decode cX0_readString 91 = .ok (.invokevirtual 64, 3) := by decide +kernel
theorem dX0_readString_94 : decode cX0_readString 94 = .ok (.areturn, 1) := by decide +kernel
theorem dX0_readName_0 : decode cX0_readName 0 = .ok (.aload_n 0, 1) := by decide +kernel
theorem dX0_readName_1 : decode cX0_readName 1 = .ok (.getfield 17, 3) := by decide +kernel
theorem dX0_readName_4 : decode cX0_readName 4 = .ok (.istore_n 1, 1) := by decide +kernel
theorem dX0_readName_5 : decode cX0_readName 5 = .ok (.aload_n 0, 1) := by decide +kernel
theorem dX0_readName_6 : decode cX0_readName 6 = .ok (.invokevirtual 68, 3) := by decide +kernel
theorem dX0_readName_9 : decode cX0_readName 9 = .ok (.ifCond .ne 11, 3) := by decide +kernel
theorem dX0_readName_12 : decode cX0_readName 12 = .ok (.aload_n 0, 1) := by decide +kernel
theorem dX0_readName_13 : decode cX0_readName 13 = .ok (.aload_n 0, 1) := by decide +kernel
theorem dX0_readName_14 : decode cX0_readName 14 = .ok (.getfield 17, 3) := by decide +kernel
theorem dX0_readName_17 : decode cX0_readName 17 = .ok (.invokevirtual 48, 3) := by decide +kernel
theorem dX0_readName_20 : decode cX0_readName 20 = .ok (.iconst 0, 1) := by decide +kernel
theorem dX0_readName_21 : decode cX0_readName 21 = .ok (.istore_n 2, 1) := by decide +kernel
theorem dX0_readName_22 : decode cX0_readName 22 = .ok (.iload_n 2, 1) := by decide +kernel
theorem dX0_readName_23 : decode cX0_readName 23 = .ok (.bipush 8, 2) := by decide +kernel
theorem dX0_readName_25 : decode cX0_readName 25 = .ok (.if_icmp .ge 20, 3) := by decide +kernel
theorem dX0_readName_28 : decode cX0_readName 28 = .ok (.aload_n 0, 1) := by decide +kernel
theorem dX0_readName_29 : decode cX0_readName 29 = .ok (.invokevirtual 68, 3) := by decide +kernel
theorem dX0_readName_32 : decode cX0_readName 32 = .ok (.ifCond .eq 13, 3) := by decide +kernel
theorem dX0_readName_35 : decode cX0_readName 35 = .ok (.aload_n 0, 1) := by decide +kernel
theorem dX0_readName_36 : decode cX0_readName 36 = .ok (.invokevirtual 45, 3) := by decide +kernel
theorem dX0_readName_39 : decode cX0_readName 39 = .ok (.iinc 2 1, 3) := by decide +kernel
theorem dX0_readName_42 : decode cX0_readName 42 = .ok (.goto (-20), 3) := by decide +kernel
theorem dX0_readName_45 : decode cX0_readName 45 = .ok (.aload_n 0, 1) := by decide +kernel
theorem dX0_readName_46 : decode cX0_readName 46 = .ok (.invokevirtual 68, 3) := by decide +kernel
theorem dX0_readName_49 : decode cX0_readName 49 = .ok (.ifCond .eq 8, 3) := by decide +kernel
theorem dX0_readName_52 : decode cX0_readName 52 = .ok (.aload_n 0, 1) := by decide +kernel
theorem dX0_readName_53 : decode cX0_readName 53 = .ok (.iload_n 1, 1) := by decide +kernel
theorem dX0_readName_54 : decode cX0_readName 54 = .ok (.invokevirtual 48, 3) := by decide +kernel
theorem dX0_readName_57 : decode cX0_readName 57 = .ok (.aload_n 0, 1) := by decide +kernel
theorem dX0_readName_58 : decode cX0_readName 58 = .ok (.getfield 11, 3) := by decide +kernel
theorem dX0_readName_61 : decode cX0_readName 61 = .ok (.iload_n 1, 1) := by decide +kernel
theorem dX0_readName_62 : decode cX0_readName 62 = .ok (.aload_n 0, 1) := by decide +kernel
theorem dX0_readName_63 : decode cX0_readName 63 = .ok (.getfield 17, 3) := by decide +kernel
theorem dX0_readName_66 : decode cX0_readName 66 = .ok (.invokevirtual 64, 3) := by decide +kernel
theorem dX0_readName_69 : decode cX0_readName 69 = .ok (.areturn, 1) := by decide +kernel
/-- a string's letters from p on, k more at most: at its end, or where it is ill -/
def rsL (t : List Nat) (qt br b : Nat) : Nat → Nat → Nat ⊕ Nat
  | 0, p => if lk t p = qt then .inl p else if lk t p = 0 ∨ lk t p = br then .inr p else .inr b
  | k + 1, p => if lk t p = qt then .inl p else if lk t p = 0 ∨ lk t p = br then .inr p else rsL t qt br b k (p + 1)
def rdS (t : List Nat) (qt br p : Nat) : Nat ⊕ Nat := if lk t p = qt then rsL t qt br p 8 (p + 1) else .inr p
/-- the empty text's cell, and room for more -/
def mv_env (G : mv_G) (h : mv_H) : Prop := (∃ z, mv_lt G RJ1 151 "" z ∧ mv_str G h z []) ∧ mv_wf h ∧ G.2.2.1 ≤ h.1
theorem mv_env.set {G : mv_G} {h : mv_H} {c : Nat} {e0 e : va_E} (hv : mv_env G h) (hc : h.2.2 c = some e0) (h0 : mv_tag e0 ≠ 0) (h1 : mv_tag e0 ≠ 1000) : mv_env G (mv_set h c e) := by
  obtain ⟨⟨z, z1, z2⟩, w, b⟩ := hv
  exact ⟨⟨z, z1, z2.set hc h0 h1⟩, mv_wf_set w hc, b⟩
abbrev mvQs (G : mv_G) (h : mv_H) (c s : Nat) (t : List Nat) (ill : Int32) (b : Nat) (r : Nat ⊕ Nat) (o : mv_O) (h1 : mv_H) : Prop :=
  (∃ p', r = .inl p' ∧ p' < t.length ∧ b ≤ p' ∧ ∃ a, o = .inl (some (.ref a)) ∧ mv_str G h1 a ((t.drop b).take (p' - b)) ∧ mv_made (mv_set h c (curE s (p' + 1) ill)) h1) ∨ (∃ w p'', r = .inr w ∧ o = .inr (xIA, h.1) ∧ thr (mv_set h c (curE s p'' (nI w))) = h1)
set_option maxRecDepth 100000 in
set_option maxHeartbeats 4000000 in
theorem sp_rs_73 {l : Launch} {G : mv_G} {d : Nat} (hG : mv_ok G) (hX : mv_okX l G) {c s : Nat} {t : List Nat} {ill : Int32} (hc : G.2.2.1 ≤ c) (hd : 9 ≤ d + 1) (ht : t.length ≤ 160) {qt br b : Nat} (q0 : qt ≠ 0) (q9 : qt < 128) (r9 : br < 128) {i p : Nat} {h : mv_H} (fc : h.2.2 c = some (curE s p ill)) (hs : mv_str G h s t) (hv : mv_env G h) (hqt : lk t p = qt) (hbp : b + 1 ≤ p) (hp8 : p ≤ b + 9) : mv_rq l G mX0_readString (d + 1) 73 [some (.ref c), some (.int (nI qt)), some (.int (nI br)), some (.int (nI b)), some (.int (nI i))] [] h (fun o h1 => ∃ a, o = .inl (some (.ref a)) ∧ mv_str G h1 a ((t.drop (b + 1)).take (p - (b + 1))) ∧ mv_made (mv_set h c (curE s (p + 1) ill)) h1) := by
  obtain ⟨q, x, y, f, fs, fq, h3, h4, h5⟩ := mv_str_at hs
  have hlt : p < t.length := lk_lt hqt q0
  have hp : p ≤ t.length := Nat.le_of_lt hlt
  refine q_aload_n dX0_readString_73 rfl ?_
  refine q_iload_n dX0_readString_74 rfl ?_
  refine q_cV (Y := mX0_expect) (As := [.int (nI qt)]) (st := []) (b := c) (ci := 2) vc_X0_expect dX0_readString_75 ml_RX0_52 rfl fc rfl (Nat.le_of_ble_eq_true rfl) rfl (Nat.le_of_ble_eq_true rfl) (sp_expect hG hX fc hs hp q0 q9 hc (by omega)) (fun v h1 hq => ?_) (fun E h1 hq => by
      rcases hq with ⟨heq, hv, he⟩ | ⟨hne, hv, he⟩
      · cases hv
      · exact absurd hqt hne)
  rcases hq with ⟨heq, hv9, rfl⟩ | ⟨hne, hv9, he⟩
  · cases hv9
    have fc2 : (mv_set h c (curE s (p + 1) ill)).2.2 c = some (curE s (p + 1) ill) := mv_set_s
    have hs2 := hs.set (e := curE s (p + 1) ill) fc (show (2 : Nat) ≠ 0 by decide) (show (2 : Nat) ≠ 1000 by decide)
    obtain ⟨q2, x2, y2, f2, fs2, fq2, -⟩ := mv_str_at hs2
    obtain ⟨⟨z, z1, z2⟩, w2, b2⟩ := hv.set (e := curE s (p + 1) ill) fc (show (2 : Nat) ≠ 0 by decide) (show (2 : Nat) ≠ 1000 by decide)
    show mv_rq l G mX0_readString (d + 1) 78 [some (.ref c), some (.int (nI qt)), some (.int (nI br)), some (.int (nI b)), some (.int (nI i))] [] (mv_set h c (curE s (p + 1) ill)) _
    refine q_aload_n dX0_readString_78 rfl ?_
    refine q_getf (k := 0) (T := TX0) (C0 := RX0) (N := 3) (ci := 2) dX0_readString_79 fl_RX0_11 rfl uin_RX0 (by decide) rfl fc2 rfl ?_
    refine q_iload_n dX0_readString_82 rfl ?_
    refine q_iconst (v := 1) dX0_readString_83 (by decide) ?_
    refine q_iadd dX0_readString_84 ?_
    rw [nI_1]
    show mv_rq l G mX0_readString (d + 1) 85 [some (.ref c), some (.int (nI qt)), some (.int (nI br)), some (.int (nI b)), some (.int (nI i))] [.int (nI (b + 1)), .ref s] (mv_set h c (curE s (p + 1) ill)) _
    refine q_aload_n dX0_readString_85 rfl ?_
    refine q_getf (k := 1) (T := TX0) (C0 := RX0) (N := 3) (ci := 2) dX0_readString_86 fl_RX0_17 rfl uin_RX0 (by decide) rfl fc2 rfl ?_
    refine q_iconst (v := 1) dX0_readString_89 (by decide) ?_
    refine q_isub dX0_readString_90 ?_
    rw [nI_pred]
    show mv_rq l G mX0_readString (d + 1) 91 [some (.ref c), some (.int (nI qt)), some (.int (nI br)), some (.int (nI b)), some (.int (nI i))] [.int (nI p), .int (nI (b + 1)), .ref s] (mv_set h c (curE s (p + 1) ill)) _
    refine q_cV (Y := mJ0_substring_37a41) (As := [.int (nI (b + 1)), .int (nI p)]) (st := []) (b := s) (ci := 0) vc_J0_substring_37a41 dX0_readString_91 ml_RX0_64 rfl fs2 rfl (Nat.le_of_ble_eq_true rfl) rfl (Nat.le_of_ble_eq_true rfl) (sp_substring hG hs2 ht z1 z2 w2 b2 (i := b + 1) (e := p) hbp hp (by omega) (by omega) (by omega)) (fun v h1 hq => ?_) (fun E h1 hq => by obtain ⟨r, hv8, _⟩ := hq; cases hv8)
    obtain ⟨r, hv8, hm⟩ := hq
    cases hv8
    show mv_rq l G mX0_readString (d + 1) 94 [some (.ref c), some (.int (nI qt)), some (.int (nI br)), some (.int (nI b)), some (.int (nI i))] [.ref r] h1 _
    exact q_aret (rt := (.object "java/lang/String")) dX0_readString_94 rfl (Or.inl ⟨_, rfl⟩) (Or.inr ⟨_, rfl⟩) ⟨r, rfl, hm⟩
  · exact absurd hqt hne
set_option maxRecDepth 100000 in
set_option maxHeartbeats 4000000 in
theorem sp_rs_13 {l : Launch} {G : mv_G} {d : Nat} (hG : mv_ok G) (hX : mv_okX l G) {c s : Nat} {t : List Nat} {ill : Int32} (hc : G.2.2.1 ≤ c) (hd : 9 ≤ d + 1) (ht : t.length ≤ 160) {qt br b : Nat} (q0 : qt ≠ 0) (q9 : qt < 128) (r9 : br < 128) : ∀ (k i p : Nat) (h : mv_H), i + k = 8 → h.2.2 c = some (curE s p ill) → mv_str G h s t → mv_env G h → p ≤ t.length → b + 1 ≤ p ∧ p ≤ b + 1 + i → mv_rq l G mX0_readString (d + 1) 13 [some (.ref c), some (.int (nI qt)), some (.int (nI br)), some (.int (nI b)), some (.int (nI i))] [] h (mvQs G h c s t ill (b + 1) (rsL t qt br b k p)) := by
  intro k
  induction k with
  | zero =>
    intro i p h hi fc hs hv hp hbp
    obtain ⟨q, x, y, f, fs, fq, h3, h4, h5⟩ := mv_str_at hs
    refine q_iload dX0_readString_13 rfl ?_
    refine q_bipush (v := 8) dX0_readString_15 (by decide) ?_
    refine q_icmp_gt (tgt := 73) dX0_readString_17 (by decide) (fun z => absurd z (fun z2 => absurd ((nI_ltI (a := 8) (b := i) (by omega) (by omega)).mp z2) (by omega))) (fun _ => ?_)
    refine q_aload_n dX0_readString_20 rfl ?_
    refine q_cV (Y := mX0_look) (As := []) (st := []) (b := c) (ci := 2) vc_X0_look dX0_readString_21 ml_RX0_41 rfl fc rfl (Nat.le_of_ble_eq_true rfl) rfl (Nat.le_of_ble_eq_true rfl) (sp_look hG fc hs hp (by omega)) (fun v h1 hq => ?_) (fun E h1 hq => nomatch hq.1)
    obtain ⟨hv, rfl⟩ := hq
    cases hv
    show mv_rq l G mX0_readString (d + 1) 24 [some (.ref c), some (.int (nI qt)), some (.int (nI br)), some (.int (nI b)), some (.int (nI i))] [.int (nI (lk t p))] h _
    refine q_iload_n dX0_readString_24 rfl ?_
    refine q_icmp_eq (tgt := 73) dX0_readString_25 (by decide) (fun c_25 => ?_) (fun c_25 => ?_)
    ·
      have k1 : lk t p = qt := (neq (h4 p) q9).mp c_25
      have e1 : rsL t qt br b 0 p = .inl p := by unfold rsL; rw [if_pos k1]
      refine (sp_rs_73 hG hX hc hd ht q0 q9 r9 fc hs hv k1 hbp.1 (by omega)).mono fun o h1 hq => ?_
      obtain ⟨a, b1, b2, b3⟩ := hq
      exact Or.inl ⟨p, e1, lk_lt k1 q0, hbp.1, a, b1, b2, b3⟩
    ·
      have k1 : lk t p ≠ qt := fun z => c_25 (by rw [z])
      refine q_aload_n dX0_readString_28 rfl ?_
      refine q_cV (Y := mX0_look) (As := []) (st := []) (b := c) (ci := 2) vc_X0_look dX0_readString_29 ml_RX0_41 rfl fc rfl (Nat.le_of_ble_eq_true rfl) rfl (Nat.le_of_ble_eq_true rfl) (sp_look hG fc hs hp (by omega)) (fun v h1 hq => ?_) (fun E h1 hq => nomatch hq.1)
      obtain ⟨hv, rfl⟩ := hq
      cases hv
      show mv_rq l G mX0_readString (d + 1) 32 [some (.ref c), some (.int (nI qt)), some (.int (nI br)), some (.int (nI b)), some (.int (nI i))] [.int (nI (lk t p))] h _
      refine q_if_eq (tgt := 43) dX0_readString_32 (by decide) (fun c_32 => ?_) (fun c_32 => ?_)
      ·
        have k2 : lk t p = 0 ∨ lk t p = br := Or.inl ((neq (h4 p) (by decide)).mp c_32)
        have e2 : rsL t qt br b 0 p = .inr p := by unfold rsL; rw [if_neg k1, if_pos k2]
        refine q_aload_n dX0_readString_43 rfl ?_
        refine q_aload_n dX0_readString_44 rfl ?_
        refine q_getf (k := 1) (T := TX0) (C0 := RX0) (N := 3) (ci := 2) dX0_readString_45 fl_RX0_17 rfl uin_RX0 (by decide) rfl fc rfl ?_
        refine q_cV (Y := mX0_refuse) (As := [.int (nI p)]) (st := []) (b := c) (ci := 2) vc_X0_refuse dX0_readString_48 ml_RX0_48 rfl fc rfl (Nat.le_of_ble_eq_true rfl) rfl (Nat.le_of_ble_eq_true rfl) (sp_refuse hG hX fc hc (by omega)) (fun v h1 hq => ?_) (fun E h1 hq => by
      obtain ⟨hv9, rfl⟩ := hq
      cases hv9
      exact q_xout (fun z hz => nomatch hz) (Or.inr ⟨p, p, e2, rfl, rfl⟩))
        exact absurd hq.1 (by intro z; cases z)
      ·
        have k3 : lk t p ≠ 0 := fun z => c_32 (by rw [z]; rfl)
        refine q_aload_n dX0_readString_35 rfl ?_
        refine q_cV (Y := mX0_look) (As := []) (st := []) (b := c) (ci := 2) vc_X0_look dX0_readString_36 ml_RX0_41 rfl fc rfl (Nat.le_of_ble_eq_true rfl) rfl (Nat.le_of_ble_eq_true rfl) (sp_look hG fc hs hp (by omega)) (fun v h1 hq => ?_) (fun E h1 hq => nomatch hq.1)
        obtain ⟨hv, rfl⟩ := hq
        cases hv
        show mv_rq l G mX0_readString (d + 1) 39 [some (.ref c), some (.int (nI qt)), some (.int (nI br)), some (.int (nI b)), some (.int (nI i))] [.int (nI (lk t p))] h _
        refine q_iload_n dX0_readString_39 rfl ?_
        refine q_icmp_ne (tgt := 51) dX0_readString_40 (by decide) (fun c_40 => ?_) (fun c_40 => ?_)
        ·
          have k4 : ¬ (lk t p = 0 ∨ lk t p = br) := fun z => z.elim k3 (fun z2 => c_40 (by rw [z2]))
          refine q_iload dX0_readString_51 rfl ?_
          refine q_bipush (v := 8) dX0_readString_53 (by decide) ?_
          refine q_icmp_ne (tgt := 63) dX0_readString_55 (by decide) (fun z => absurd (by rw [show i = 8 by omega]; rfl) z) (fun _ => ?_)
          have e3 : rsL t qt br b 0 p = .inr b := by unfold rsL; rw [if_neg k1, if_neg k4]
          show mv_rq l G mX0_readString (d + 1) 58 [some (.ref c), some (.int (nI qt)), some (.int (nI br)), some (.int (nI b)), some (.int (nI i))] [] h _
          refine q_aload_n dX0_readString_58 rfl ?_
          refine q_iload_n dX0_readString_59 rfl ?_
          refine q_cV (Y := mX0_refuse) (As := [.int (nI b)]) (st := []) (b := c) (ci := 2) vc_X0_refuse dX0_readString_60 ml_RX0_48 rfl fc rfl (Nat.le_of_ble_eq_true rfl) rfl (Nat.le_of_ble_eq_true rfl) (sp_refuse hG hX fc hc (by omega)) (fun v h1 hq => ?_) (fun E h1 hq => by
      obtain ⟨hv9, rfl⟩ := hq
      cases hv9
      exact q_xout (fun z hz => nomatch hz) (Or.inr ⟨b, p, e3, rfl, rfl⟩))
          exact absurd hq.1 (by intro z; cases z)
        ·
          have k2 : lk t p = 0 ∨ lk t p = br := Or.inr ((neq (h4 p) r9).mp c_40)
          have e2 : rsL t qt br b 0 p = .inr p := by unfold rsL; rw [if_neg k1, if_pos k2]
          refine q_aload_n dX0_readString_43 rfl ?_
          refine q_aload_n dX0_readString_44 rfl ?_
          refine q_getf (k := 1) (T := TX0) (C0 := RX0) (N := 3) (ci := 2) dX0_readString_45 fl_RX0_17 rfl uin_RX0 (by decide) rfl fc rfl ?_
          refine q_cV (Y := mX0_refuse) (As := [.int (nI p)]) (st := []) (b := c) (ci := 2) vc_X0_refuse dX0_readString_48 ml_RX0_48 rfl fc rfl (Nat.le_of_ble_eq_true rfl) rfl (Nat.le_of_ble_eq_true rfl) (sp_refuse hG hX fc hc (by omega)) (fun v h1 hq => ?_) (fun E h1 hq => by
      obtain ⟨hv9, rfl⟩ := hq
      cases hv9
      exact q_xout (fun z hz => nomatch hz) (Or.inr ⟨p, p, e2, rfl, rfl⟩))
          exact absurd hq.1 (by intro z; cases z)
  | succ k ih =>
    intro i p h hi fc hs hv hp hbp
    obtain ⟨q, x, y, f, fs, fq, h3, h4, h5⟩ := mv_str_at hs
    refine q_iload dX0_readString_13 rfl ?_
    refine q_bipush (v := 8) dX0_readString_15 (by decide) ?_
    refine q_icmp_gt (tgt := 73) dX0_readString_17 (by decide) (fun z => absurd z (fun z2 => absurd ((nI_ltI (a := 8) (b := i) (by omega) (by omega)).mp z2) (by omega))) (fun _ => ?_)
    refine q_aload_n dX0_readString_20 rfl ?_
    refine q_cV (Y := mX0_look) (As := []) (st := []) (b := c) (ci := 2) vc_X0_look dX0_readString_21 ml_RX0_41 rfl fc rfl (Nat.le_of_ble_eq_true rfl) rfl (Nat.le_of_ble_eq_true rfl) (sp_look hG fc hs hp (by omega)) (fun v h1 hq => ?_) (fun E h1 hq => nomatch hq.1)
    obtain ⟨hv, rfl⟩ := hq
    cases hv
    show mv_rq l G mX0_readString (d + 1) 24 [some (.ref c), some (.int (nI qt)), some (.int (nI br)), some (.int (nI b)), some (.int (nI i))] [.int (nI (lk t p))] h _
    refine q_iload_n dX0_readString_24 rfl ?_
    refine q_icmp_eq (tgt := 73) dX0_readString_25 (by decide) (fun c_25 => ?_) (fun c_25 => ?_)
    ·
      have k1 : lk t p = qt := (neq (h4 p) q9).mp c_25
      have e1 : rsL t qt br b (k + 1) p = .inl p := by unfold rsL; rw [if_pos k1]
      refine (sp_rs_73 hG hX hc hd ht q0 q9 r9 fc hs hv k1 hbp.1 (by omega)).mono fun o h1 hq => ?_
      obtain ⟨a, b1, b2, b3⟩ := hq
      exact Or.inl ⟨p, e1, lk_lt k1 q0, hbp.1, a, b1, b2, b3⟩
    ·
      have k1 : lk t p ≠ qt := fun z => c_25 (by rw [z])
      refine q_aload_n dX0_readString_28 rfl ?_
      refine q_cV (Y := mX0_look) (As := []) (st := []) (b := c) (ci := 2) vc_X0_look dX0_readString_29 ml_RX0_41 rfl fc rfl (Nat.le_of_ble_eq_true rfl) rfl (Nat.le_of_ble_eq_true rfl) (sp_look hG fc hs hp (by omega)) (fun v h1 hq => ?_) (fun E h1 hq => nomatch hq.1)
      obtain ⟨hv, rfl⟩ := hq
      cases hv
      show mv_rq l G mX0_readString (d + 1) 32 [some (.ref c), some (.int (nI qt)), some (.int (nI br)), some (.int (nI b)), some (.int (nI i))] [.int (nI (lk t p))] h _
      refine q_if_eq (tgt := 43) dX0_readString_32 (by decide) (fun c_32 => ?_) (fun c_32 => ?_)
      ·
        have k2 : lk t p = 0 ∨ lk t p = br := Or.inl ((neq (h4 p) (by decide)).mp c_32)
        have e2 : rsL t qt br b (k + 1) p = .inr p := by unfold rsL; rw [if_neg k1, if_pos k2]
        refine q_aload_n dX0_readString_43 rfl ?_
        refine q_aload_n dX0_readString_44 rfl ?_
        refine q_getf (k := 1) (T := TX0) (C0 := RX0) (N := 3) (ci := 2) dX0_readString_45 fl_RX0_17 rfl uin_RX0 (by decide) rfl fc rfl ?_
        refine q_cV (Y := mX0_refuse) (As := [.int (nI p)]) (st := []) (b := c) (ci := 2) vc_X0_refuse dX0_readString_48 ml_RX0_48 rfl fc rfl (Nat.le_of_ble_eq_true rfl) rfl (Nat.le_of_ble_eq_true rfl) (sp_refuse hG hX fc hc (by omega)) (fun v h1 hq => ?_) (fun E h1 hq => by
      obtain ⟨hv9, rfl⟩ := hq
      cases hv9
      exact q_xout (fun z hz => nomatch hz) (Or.inr ⟨p, p, e2, rfl, rfl⟩))
        exact absurd hq.1 (by intro z; cases z)
      ·
        have k3 : lk t p ≠ 0 := fun z => c_32 (by rw [z]; rfl)
        refine q_aload_n dX0_readString_35 rfl ?_
        refine q_cV (Y := mX0_look) (As := []) (st := []) (b := c) (ci := 2) vc_X0_look dX0_readString_36 ml_RX0_41 rfl fc rfl (Nat.le_of_ble_eq_true rfl) rfl (Nat.le_of_ble_eq_true rfl) (sp_look hG fc hs hp (by omega)) (fun v h1 hq => ?_) (fun E h1 hq => nomatch hq.1)
        obtain ⟨hv, rfl⟩ := hq
        cases hv
        show mv_rq l G mX0_readString (d + 1) 39 [some (.ref c), some (.int (nI qt)), some (.int (nI br)), some (.int (nI b)), some (.int (nI i))] [.int (nI (lk t p))] h _
        refine q_iload_n dX0_readString_39 rfl ?_
        refine q_icmp_ne (tgt := 51) dX0_readString_40 (by decide) (fun c_40 => ?_) (fun c_40 => ?_)
        ·
          have k4 : ¬ (lk t p = 0 ∨ lk t p = br) := fun z => z.elim k3 (fun z2 => c_40 (by rw [z2]))
          refine q_iload dX0_readString_51 rfl ?_
          refine q_bipush (v := 8) dX0_readString_53 (by decide) ?_
          refine q_icmp_ne (tgt := 63) dX0_readString_55 (by decide) (fun _ => ?_) (fun z => absurd z (fun z => absurd ((nI_eq (a := i) (b := 8) (by omega) (by omega)).mp z) (by omega)))
          have e3 : rsL t qt br b (k + 1) p = rsL t qt br b k (p + 1) := by rw [rsL, if_neg k1, if_neg k4]
          have hlt : p < t.length := lk_lt (rfl : lk t p = lk t p) k3
          rw [e3]
          show mv_rq l G mX0_readString (d + 1) 63 [some (.ref c), some (.int (nI qt)), some (.int (nI br)), some (.int (nI b)), some (.int (nI i))] [] h _
          refine q_aload_n dX0_readString_63 rfl ?_
          refine q_cV (Y := mX0_skip) (As := []) (st := []) (b := c) (ci := 2) vc_X0_skip dX0_readString_64 ml_RX0_45 rfl fc rfl (Nat.le_of_ble_eq_true rfl) rfl (Nat.le_of_ble_eq_true rfl) (sp_skip hG fc hs hlt hc (by omega)) (fun v h1 hq => ?_) (fun E h1 hq => nomatch hq.1)
          obtain ⟨hv, rfl⟩ := hq
          cases hv
          show mv_rq l G mX0_readString (d + 1) 67 [some (.ref c), some (.int (nI qt)), some (.int (nI br)), some (.int (nI b)), some (.int (nI i))] [] (mv_set h c (curE s (p + 1) ill)) _
          refine q_iinc dX0_readString_67 rfl rfl ?_
          show mv_rq l G mX0_readString (d + 1) 70 [some (.ref c), some (.int (nI qt)), some (.int (nI br)), some (.int (nI b)), some (.int ((nI i) + 1))] [] (mv_set h c (curE s (p + 1) ill)) _
          refine q_goto (tgt := 13) dX0_readString_70 (by decide) ?_
          rw [nI_1]
          have hn := ih (i + 1) (p + 1) (mv_set h c (curE s (p + 1) ill)) (by omega) mv_set_s (hs.set fc (show (2 : Nat) ≠ 0 by decide) (show (2 : Nat) ≠ 1000 by decide)) (hv.set fc (show (2 : Nat) ≠ 0 by decide) (show (2 : Nat) ≠ 1000 by decide)) hlt (by omega)
          refine hn.mono fun o h1 hq => ?_
          simp only [mvQs, mv_set_set] at hq ⊢
          exact hq
        ·
          have k2 : lk t p = 0 ∨ lk t p = br := Or.inr ((neq (h4 p) r9).mp c_40)
          have e2 : rsL t qt br b (k + 1) p = .inr p := by unfold rsL; rw [if_neg k1, if_pos k2]
          refine q_aload_n dX0_readString_43 rfl ?_
          refine q_aload_n dX0_readString_44 rfl ?_
          refine q_getf (k := 1) (T := TX0) (C0 := RX0) (N := 3) (ci := 2) dX0_readString_45 fl_RX0_17 rfl uin_RX0 (by decide) rfl fc rfl ?_
          refine q_cV (Y := mX0_refuse) (As := [.int (nI p)]) (st := []) (b := c) (ci := 2) vc_X0_refuse dX0_readString_48 ml_RX0_48 rfl fc rfl (Nat.le_of_ble_eq_true rfl) rfl (Nat.le_of_ble_eq_true rfl) (sp_refuse hG hX fc hc (by omega)) (fun v h1 hq => ?_) (fun E h1 hq => by
      obtain ⟨hv9, rfl⟩ := hq
      cases hv9
      exact q_xout (fun z hz => nomatch hz) (Or.inr ⟨p, p, e2, rfl, rfl⟩))
          exact absurd hq.1 (by intro z; cases z)
set_option maxRecDepth 100000 in
set_option maxHeartbeats 4000000 in
theorem sp_readString {l : Launch} {G : mv_G} {d : Nat} {h : mv_H} (hG : mv_ok G) (hX : mv_okX l G) {c s : Nat} {t : List Nat} {p : Nat} {ill : Int32} (fc : h.2.2 c = some (curE s p ill)) (hs : mv_str G h s t) (hv : mv_env G h) (ht : t.length ≤ 160) {qt br : Nat} (q0 : qt ≠ 0) (q9 : qt < 128) (r9 : br < 128) (hp : p ≤ t.length) (hc : G.2.2.1 ≤ c) (hd : 9 ≤ d) : mv_rq l G mX0_readString d 0 (mv_in [.ref c, .int (nI qt), .int (nI br)] 5) [] h (mvQs G h c s t ill (p + 1) (rdS t qt br p)) := by
  obtain ⟨d, rfl⟩ : ∃ e, d = e + 1 := ⟨d - 1, by omega⟩
  obtain ⟨q, x, y, f, fs, fq, h3, h4, h5⟩ := mv_str_at hs
  show mv_rq l G mX0_readString (d + 1) 0 [some (.ref c), some (.int (nI qt)), some (.int (nI br)), none, none] [] h _
  refine q_aload_n dX0_readString_0 rfl ?_
  refine q_getf (k := 1) (T := TX0) (C0 := RX0) (N := 3) (ci := 2) dX0_readString_1 fl_RX0_17 rfl uin_RX0 (by decide) rfl fc rfl ?_
  refine q_istore_n dX0_readString_4 (Nat.le_of_ble_eq_true rfl) rfl ?_
  show mv_rq l G mX0_readString (d + 1) 5 [some (.ref c), some (.int (nI qt)), some (.int (nI br)), some (.int (nI p)), none] [] h _
  refine q_aload_n dX0_readString_5 rfl ?_
  refine q_iload_n dX0_readString_6 rfl ?_
  refine q_cV (Y := mX0_expect) (As := [.int (nI qt)]) (st := []) (b := c) (ci := 2) vc_X0_expect dX0_readString_7 ml_RX0_52 rfl fc rfl (Nat.le_of_ble_eq_true rfl) rfl (Nat.le_of_ble_eq_true rfl) (sp_expect hG hX fc hs hp q0 q9 hc (by omega)) (fun v h1 hq => ?_) (fun E h1 hq => by
      rcases hq with ⟨heq, hv9, he⟩ | ⟨hne, hv9, rfl⟩
      · cases hv9
      · cases hv9
        exact q_xout (fun z hz => nomatch hz) (Or.inr ⟨p, p, by unfold rdS; rw [if_neg hne], rfl, rfl⟩))
  rcases hq with ⟨heq, hv9, rfl⟩ | ⟨hne, hv9, he⟩
  · cases hv9
    show mv_rq l G mX0_readString (d + 1) 10 [some (.ref c), some (.int (nI qt)), some (.int (nI br)), some (.int (nI p)), none] [] (mv_set h c (curE s (p + 1) ill)) _
    refine q_iconst (v := 0) dX0_readString_10 (by decide) ?_
    refine q_istore dX0_readString_11 (Nat.le_of_ble_eq_true rfl) rfl ?_
    show mv_rq l G mX0_readString (d + 1) 13 [some (.ref c), some (.int (nI qt)), some (.int (nI br)), some (.int (nI p)), some (.int 0)] [] (mv_set h c (curE s (p + 1) ill)) _
    have hlt : p < t.length := lk_lt heq q0
    have hn := sp_rs_13 hG hX hc hd ht (b := p) q0 q9 r9 8 0 (p + 1) (mv_set h c (curE s (p + 1) ill)) rfl mv_set_s (hs.set fc (show (2 : Nat) ≠ 0 by decide) (show (2 : Nat) ≠ 1000 by decide)) (hv.set fc (show (2 : Nat) ≠ 0 by decide) (show (2 : Nat) ≠ 1000 by decide)) hlt ⟨Nat.le_refl _, by omega⟩
    have e0 : rdS t qt br p = rsL t qt br p 8 (p + 1) := by unfold rdS; rw [if_pos heq]
    rw [e0]
    refine hn.mono fun o h1 hq => ?_
    simp only [mvQs, mv_set_set] at hq ⊢
    exact hq
  · cases hv9
