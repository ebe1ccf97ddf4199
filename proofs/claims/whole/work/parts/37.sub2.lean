/-- a String constant's cell -/
def mv_lt (G : mv_G) (own : String) (k : Nat) (tx : String) (a : Nat) : Prop := ∀ U : State, G.2.2.2.2 U → vk_R own k tx a U
/-- at most two cells more, all else as it was -/
def mv_made (h h1 : mv_H) : Prop := h.1 ≤ h1.1 ∧ h1.1 ≤ h.1 + 2 ∧ h.2.1 ≤ h1.2.1 ∧ h1.2.1 + 10 * h.1 ≤ h.2.1 + 10 * h1.1 ∧ (∀ a, a < h.1 → h1.2.2 a = h.2.2 a) ∧ mv_wf h1 ∧ ∀ a q x, h.1 ≤ a → h1.2.2 a = some (.inr (0, .ref q :: x)) → h.1 ≤ q ∧ q < h1.1
theorem mv_made.rf {h : mv_H} (hw : mv_wf h) : mv_made h h := ⟨Nat.le_refl _, by omega, Nat.le_refl _, by omega, fun _ _ => rfl, hw, fun a q x ha e => by rw [hw a ha] at e; cases e⟩
theorem fitB (c : Nat) (hc : c < 128) : fits .byte (.int (nI c)) = true := by
  have := sb_fitB c
  have e : sb_b c = nI c := by
    unfold sb_b
    revert c
    decide +kernel
  rw [e] at this
  exact this
theorem lk_sub {t : List Nat} {i n j : Nat} (hj : j < n) : lk ((t.drop i).take n) j = lk t (i + j) := by
  unfold lk
  rw [List.getD_eq_getElem?_getD, List.getD_eq_getElem?_getD, List.getElem?_take_of_lt hj, List.getElem?_drop]
set_option maxRecDepth 100000 in
set_option maxHeartbeats 4000000 in
theorem sp_newString {l : Launch} {G : mv_G} {d : Nat} {h : mv_H} (hG : mv_ok G) {q : Nat} {t : List Nat} {f : Nat → Int32} (fq : h.2.2 q = some (.inl (mv_t G 0, t.length, .inl f))) (h3 : ∀ j, j < t.length → f j = nI (lk t j)) (h4 : ∀ j, lk t j < 128) (h5 : t.length ≤ 160) {z : Nat} (hz : mv_lt G RJ1 151 "" z) (hzs : mv_str G h z []) (hwf : mv_wf h) (hbs : G.2.2.1 ≤ h.1) {i n : Nat} (hin : i + n ≤ t.length) (hi0 : i ≠ 0 ∨ n ≠ t.length) (hn8 : n ≤ 8) (hd : 4 ≤ d) : mv_rq l G mJ1_newString_b4f7a d 0 (mv_in [.ref q, .int (nI i), .int (nI n)] 3) [] h (fun o h1 => ∃ r, o = .inl (some (.ref r)) ∧ mv_str G h1 r ((t.drop i).take n) ∧ mv_made h h1) := by
  obtain ⟨d, rfl⟩ : ∃ e, d = e + 1 := ⟨d - 1, by omega⟩
  show mv_rq l G mJ1_newString_b4f7a (d + 1) 0 [some (.ref q), some (.int (nI i)), some (.int (nI n))] [] h _
  refine q_iload_n dJ1_newString_b4f7a_0 rfl ?_
  refine q_if_ne (tgt := 7) dJ1_newString_b4f7a_1 (by decide) (fun c_1 => ?_) (fun c_1 => ?_)
  ·
    have n0 : n ≠ 0 := fun z9 => c_1 (by rw [z9]; rfl)
    refine q_new (fs := [.null, .int 0, .int 0, .int 0]) (ci := 0) (T := TJ0) (N := 4) tyJ0 tyJ0_ok dJ1_newString_b4f7a_7 cl_RJ1_1 inst_RJ0 init_RJ0 uin_RJ0 rfl (by decide) ?_
    show mv_rq l G mJ1_newString_b4f7a (d + 1) 10 [some (.ref q), some (.int (nI i)), some (.int (nI n))] [.ref h.1] (mv_new h 4 (.inr (0, [.null, .int 0, .int 0, .int 0]))) _
    obtain ⟨h_2, eh_2⟩ : ∃ z, z = mv_new h 4 (.inr (0, [.null, .int 0, .int 0, .int 0])) := ⟨_, rfl⟩
    rw [← eh_2]
    obtain ⟨a_2, ea_2⟩ : ∃ z, z = h.1 := ⟨_, rfl⟩
    rw [← ea_2]
    have fh_2_a_2 : h_2.2.2 a_2 = some (.inr (0, [.null, .int 0, .int 0, .int 0])) := by rw [eh_2, ea_2]; exact mv_new_s
    have n2_q : q ≠ a_2 := by rw [ea_2]; exact mv_wf_ne hwf fq
    have fh_2_q := (show h_2.2.2 q = _ by rw [eh_2]; exact mv_new_n (by rw [← ea_2]; exact n2_q)).trans fq
    have wfh_2 : mv_wf h_2 := by rw [eh_2]; exact mv_wf_new hwf
    have hbh_2 : G.2.2.1 ≤ h_2.1 := by rw [eh_2]; exact Nat.le_succ_of_le hbs
    have gea_2 : G.2.2.1 ≤ a_2 := by rw [ea_2]; exact hbs
    show mv_rq l G mJ1_newString_b4f7a (d + 1) 10 [some (.ref q), some (.int (nI i)), some (.int (nI n))] [.ref a_2] h_2 _
    refine q_dup dJ1_newString_b4f7a_10 rfl ?_
    refine q_aload_n dJ1_newString_b4f7a_11 rfl ?_
    refine q_iload_n dJ1_newString_b4f7a_12 rfl ?_
    refine q_iload_n dJ1_newString_b4f7a_13 rfl ?_
    refine q_iload_n dJ1_newString_b4f7a_14 rfl ?_
    refine q_iadd dJ1_newString_b4f7a_15 ?_
    rw [nI_add]
    show mv_rq l G mJ1_newString_b4f7a (d + 1) 16 [some (.ref q), some (.int (nI i)), some (.int (nI n))] [.int (nI (i + n)), .int (nI i), .ref q, .ref a_2, .ref a_2] h_2 _
    refine q_cS (Y := mJ7_copyOfRange_39247) (As := [.ref q, .int (nI i), .int (nI (i + n))]) (st := [.ref a_2, .ref a_2]) sc_J7_copyOfRange_39247 dJ1_newString_b4f7a_16 ml_RJ1_232 rfl (Nat.le_of_ble_eq_true rfl) rfl (Nat.le_of_ble_eq_true rfl) (sp_cor hG fh_2_q (b := i) (e := i + n) (by omega) hin (by omega) (by omega) (fun j hj => by rw [h3 j hj]; exact fitB _ (h4 j)) wfh_2 hbh_2 (by omega)) (fun v h1 hq => ?_) (fun E h1 hq => nomatch hq.1)
    obtain ⟨hv, rfl⟩ := hq
    cases hv
    rw [show i + n - i = n by omega]
    obtain ⟨h_3, eh_3⟩ : ∃ z, z = mv_new h_2 n (.inl (mv_t G 0, n, .inl (va_cpy f (fun _ => 0) i 0 n))) := ⟨_, rfl⟩
    rw [← eh_3]
    have g2 : h_3.2.2 a_2 = some (.inr (0, [.null, .int 0, .int 0, .int 0])) := by rw [eh_3, mv_new_n (mv_wf_ne wfh_2 fh_2_a_2)]; exact fh_2_a_2
    have g3 : h_3.2.2 h_2.1 = some (.inl (mv_t G 0, n, .inl (va_cpy f (fun _ => 0) i 0 n))) := by rw [eh_3]; exact mv_new_s
    have wf2 : mv_wf h_3 := by rw [eh_3]; exact mv_wf_new wfh_2
    show mv_rq l G mJ1_newString_b4f7a (d + 1) 19 [some (.ref q), some (.int (nI i)), some (.int (nI n))] [.ref h_2.1, .ref a_2, .ref a_2] h_3 _
    refine q_iconst (v := 0) dJ1_newString_b4f7a_19 (by decide) ?_
    refine q_cI (Y := mJ0_init_031fb) (As := [.ref h_2.1, .int 0]) (st := [.ref a_2]) (b := a_2) ic_J0_init_031fb dJ1_newString_b4f7a_20 ml_RJ1_112 rfl (Nat.le_of_ble_eq_true rfl) rfl (Nat.le_of_ble_eq_true rfl) (sp_sinit hG (b := h_2.1) (v1 := 0) (v2 := 0) (v3 := 0) (v4 := 0) (k := 0) g2 gea_2 (by omega)) (fun v h1 hq => ?_) (fun E h1 hq => nomatch hq.1)
    obtain ⟨hv, rfl⟩ := hq
    cases hv
    show mv_rq l G mJ1_newString_b4f7a (d + 1) 23 [some (.ref q), some (.int (nI i)), some (.int (nI n))] [.ref a_2] (mv_set h_3 a_2 (.inr (0, [.ref h_2.1, .int 0, .int 0, .int 0]))) _
    exact q_aret (rt := (.object "java/lang/String")) dJ1_newString_b4f7a_23 rfl (Or.inl ⟨_, rfl⟩) (Or.inr ⟨_, rfl⟩) (by
        refine ⟨a_2, rfl, ⟨h_2.1, 0, 0, va_cpy f (fun _ => 0) i 0 n, mv_set_s, ?_, fun j hj => ?_, fun j hj => ?_, ?_⟩, ?_⟩
        · rw [mv_set_n (mv_ne g2 g3 (show (0 : Nat) ≠ 1000 by decide)), g3, List.length_take, List.length_drop, show min n (t.length - i) = n by omega]
        · rw [List.length_take, List.length_drop] at hj
          rw [pk_cpy_in (Nat.zero_le j) (by omega), Nat.sub_zero, h3 (i + j) (by omega)]
          exact congrArg nI (lk_sub (by omega)).symm
        · rw [List.length_take, List.length_drop] at hj
          have e9 : lk ((t.drop i).take n) j = lk t (i + j) := lk_sub (by omega)
          show lk ((t.drop i).take n) j < 128
          rw [e9]
          exact h4 _
        · rw [List.length_take, List.length_drop]
          omega
        · refine ⟨?_, ?_, ?_, ?_, fun a ha => ?_, mv_wf_set wf2 g2, fun a q x ha e => ?_⟩
          · show h.1 ≤ h_3.1
            rw [eh_3, eh_2]
            show h.1 ≤ h.1 + 1 + 1
            omega
          · show h_3.1 ≤ h.1 + 2
            rw [eh_3, eh_2]
            exact Nat.le_refl _
          · show h.2.1 ≤ h_3.2.1
            rw [eh_3, eh_2]
            show h.2.1 ≤ h.2.1 + 4 + n
            omega
          · show h_3.2.1 + 10 * h.1 ≤ h.2.1 + 10 * h_3.1
            rw [eh_3, eh_2]
            show h.2.1 + 4 + n + 10 * h.1 ≤ h.2.1 + 10 * (h.1 + 1 + 1)
            omega
          · have e8 : h_2.1 = h.1 + 1 := by rw [eh_2]; rfl
            rw [mv_set_n (by rw [ea_2]; omega), eh_3, mv_new_n (by rw [e8]; omega), eh_2, mv_new_n (by omega)]
          · by_cases c1 : a = a_2
            · subst c1
              rw [mv_set_s] at e
              simp only [Option.some.injEq, Sum.inr.injEq, Prod.mk.injEq, List.cons.injEq, Value.ref.injEq, true_and] at e
              refine ⟨?_, ?_⟩
              · rw [← e.1, eh_2]
                exact Nat.le_succ _
              · rw [← e.1]
                show h_2.1 < h_3.1
                rw [eh_3]
                exact Nat.lt_succ_self _
            · rw [mv_set_n c1] at e
              by_cases c2 : a = h_2.1
              · rw [c2, g3] at e; cases e
              · rw [eh_3, mv_new_n c2, eh_2, mv_new_n (fun z => c1 (by rw [ea_2]; exact z)), hwf a ha] at e
                cases e)
  ·
    have n0 : n = 0 := (nI_eq (a := n) (b := 0) (by omega) (by omega)).mp c_1
    refine q_ldcS dJ1_newString_b4f7a_4 hz ?_
    exact q_aret (rt := (.object "java/lang/String")) dJ1_newString_b4f7a_6 rfl (Or.inl ⟨_, rfl⟩) (Or.inr ⟨_, rfl⟩) ⟨z, rfl, by rw [n0, List.take_zero]; exact hzs, mv_made.rf hwf⟩
set_option maxRecDepth 100000 in
set_option maxHeartbeats 4000000 in
theorem sp_cftN {l : Launch} {G : mv_G} {d : Nat} {h : mv_H} (hG : mv_ok G) {x y n : Int32} (k1 : ¬ x < 0) (k2 : ¬ y < x) (k3 : y ≤ n) (hd : 1 ≤ d) : mv_rq l G mJ3_checkFromToIndex_8c36e d 0 (mv_in [.int x, .int y, .int n, .null] 4) [] h (fun o h1 => o = .inl (some (.int x)) ∧ h = h1) := by
  obtain ⟨d, rfl⟩ : ∃ e, d = e + 1 := ⟨d - 1, by omega⟩
  show mv_rq l G mJ3_checkFromToIndex_8c36e (d + 1) 0 [some (.int x), some (.int y), some (.int n), some (.null)] [] h _
  refine q_iload_n dJ3_checkFromToIndex_8c36e_0 rfl ?_
  refine q_if_lt (tgt := 14) dJ3_checkFromToIndex_8c36e_1 (by decide) (fun z => absurd z (k1)) (fun _ => ?_)
  refine q_iload_n dJ3_checkFromToIndex_8c36e_4 rfl ?_
  refine q_iload_n dJ3_checkFromToIndex_8c36e_5 rfl ?_
  refine q_icmp_gt (tgt := 14) dJ3_checkFromToIndex_8c36e_6 (by decide) (fun z => absurd z (k2)) (fun _ => ?_)
  refine q_iload_n dJ3_checkFromToIndex_8c36e_9 rfl ?_
  refine q_iload_n dJ3_checkFromToIndex_8c36e_10 rfl ?_
  refine q_icmp_le (tgt := 22) dJ3_checkFromToIndex_8c36e_11 (by decide) (fun _ => ?_) (fun z => absurd (k3) z)
  refine q_iload_n dJ3_checkFromToIndex_8c36e_22 rfl ?_
  exact q_iret (ty := .int) dJ3_checkFromToIndex_8c36e_23 rfl rfl ⟨rfl, rfl⟩
set_option maxRecDepth 100000 in
set_option maxHeartbeats 4000000 in
theorem sp_cftR {l : Launch} {G : mv_G} {d : Nat} {h : mv_H} (hG : mv_ok G) {x y n : Int32} {b : Nat} (k1 : ¬ x < 0) (k2 : ¬ y < x) (k3 : y ≤ n) (hd : 1 ≤ d) : mv_rq l G mJ3_checkFromToIndex_8c36e d 0 (mv_in [.int x, .int y, .int n, .ref b] 4) [] h (fun o h1 => o = .inl (some (.int x)) ∧ h = h1) := by
  obtain ⟨d, rfl⟩ : ∃ e, d = e + 1 := ⟨d - 1, by omega⟩
  show mv_rq l G mJ3_checkFromToIndex_8c36e (d + 1) 0 [some (.int x), some (.int y), some (.int n), some (.ref b)] [] h _
  refine q_iload_n dJ3_checkFromToIndex_8c36e_0 rfl ?_
  refine q_if_lt (tgt := 14) dJ3_checkFromToIndex_8c36e_1 (by decide) (fun z => absurd z (k1)) (fun _ => ?_)
  refine q_iload_n dJ3_checkFromToIndex_8c36e_4 rfl ?_
  refine q_iload_n dJ3_checkFromToIndex_8c36e_5 rfl ?_
  refine q_icmp_gt (tgt := 14) dJ3_checkFromToIndex_8c36e_6 (by decide) (fun z => absurd z (k2)) (fun _ => ?_)
  refine q_iload_n dJ3_checkFromToIndex_8c36e_9 rfl ?_
  refine q_iload_n dJ3_checkFromToIndex_8c36e_10 rfl ?_
  refine q_icmp_le (tgt := 22) dJ3_checkFromToIndex_8c36e_11 (by decide) (fun _ => ?_) (fun z => absurd (k3) z)
  refine q_iload_n dJ3_checkFromToIndex_8c36e_22 rfl ?_
  exact q_iret (ty := .int) dJ3_checkFromToIndex_8c36e_23 rfl rfl ⟨rfl, rfl⟩
set_option maxRecDepth 100000 in
set_option maxHeartbeats 4000000 in
theorem sp_cbe {l : Launch} {G : mv_G} {d : Nat} {h : mv_H} (hG : mv_ok G) {x y n : Int32} (k1 : ¬ x < 0) (k2 : ¬ y < x) (k3 : y ≤ n) (hd : 2 ≤ d) : mv_rq l G mJ0_checkBoundsBeginEnd_23922 d 0 (mv_in [.int x, .int y, .int n] 3) [] h (fun o h1 => o = .inl none ∧ h = h1) := by
  obtain ⟨d, rfl⟩ : ∃ e, d = e + 1 := ⟨d - 1, by omega⟩
  obtain ⟨v, hv, hZ⟩ := hG.2.2
  rcases hv with rfl | ⟨b, rfl⟩
  ·
    show mv_rq l G mJ0_checkBoundsBeginEnd_23922 (d + 1) 0 [some (.int x), some (.int y), some (.int n)] [] h _
    refine q_iload_n dJ0_checkBoundsBeginEnd_23922_0 rfl ?_
    refine q_iload_n dJ0_checkBoundsBeginEnd_23922_1 rfl ?_
    refine q_iload_n dJ0_checkBoundsBeginEnd_23922_2 rfl ?_
    refine q_gets dJ0_checkBoundsBeginEnd_23922_3 fl_RJ0_1053 rfl hZ ?_
    refine q_cS (Y := mJ3_checkFromToIndex_8c36e) (As := [.int x, .int y, .int n, .null]) (st := []) sc_J3_checkFromToIndex_8c36e dJ0_checkBoundsBeginEnd_23922_6 ml_RJ0_1062 rfl (Nat.le_of_ble_eq_true rfl) rfl (Nat.le_of_ble_eq_true rfl) (sp_cftN hG k1 k2 k3 (by omega)) (fun v h1 hq => ?_) (fun E h1 hq => nomatch hq.1)
    obtain ⟨hv, rfl⟩ := hq
    cases hv
    show mv_rq l G mJ0_checkBoundsBeginEnd_23922 (d + 1) 9 [some (.int x), some (.int y), some (.int n)] [.int x] h _
    refine q_pop dJ0_checkBoundsBeginEnd_23922_9 rfl ?_
    exact q_vret dJ0_checkBoundsBeginEnd_23922_10 rfl ⟨rfl, rfl⟩
  ·
    show mv_rq l G mJ0_checkBoundsBeginEnd_23922 (d + 1) 0 [some (.int x), some (.int y), some (.int n)] [] h _
    refine q_iload_n dJ0_checkBoundsBeginEnd_23922_0 rfl ?_
    refine q_iload_n dJ0_checkBoundsBeginEnd_23922_1 rfl ?_
    refine q_iload_n dJ0_checkBoundsBeginEnd_23922_2 rfl ?_
    refine q_gets dJ0_checkBoundsBeginEnd_23922_3 fl_RJ0_1053 rfl hZ ?_
    refine q_cS (Y := mJ3_checkFromToIndex_8c36e) (As := [.int x, .int y, .int n, .ref b]) (st := []) sc_J3_checkFromToIndex_8c36e dJ0_checkBoundsBeginEnd_23922_6 ml_RJ0_1062 rfl (Nat.le_of_ble_eq_true rfl) rfl (Nat.le_of_ble_eq_true rfl) (sp_cftR hG k1 k2 k3 (by omega)) (fun v h1 hq => ?_) (fun E h1 hq => nomatch hq.1)
    obtain ⟨hv, rfl⟩ := hq
    cases hv
    show mv_rq l G mJ0_checkBoundsBeginEnd_23922 (d + 1) 9 [some (.int x), some (.int y), some (.int n)] [.int x] h _
    refine q_pop dJ0_checkBoundsBeginEnd_23922_9 rfl ?_
    exact q_vret dJ0_checkBoundsBeginEnd_23922_10 rfl ⟨rfl, rfl⟩
set_option maxRecDepth 100000 in
set_option maxHeartbeats 4000000 in
theorem sp_substring {l : Launch} {G : mv_G} {d : Nat} {h : mv_H} (hG : mv_ok G) {a : Nat} {t : List Nat} (hs : mv_str G h a t) (h6 : t.length ≤ 160) {z : Nat} (hz : mv_lt G RJ1 151 "" z) (hzs : mv_str G h z []) (hwf : mv_wf h) (hbs : G.2.2.1 ≤ h.1) {i e : Nat} (hie : i ≤ e) (hel : e ≤ t.length) (hi0 : i ≠ 0) (hn8 : e - i ≤ 8) (hd : 5 ≤ d) : mv_rq l G mJ0_substring_37a41 d 0 (mv_in [.ref a, .int (nI i), .int (nI e)] 5) [] h (fun o h1 => ∃ r, o = .inl (some (.ref r)) ∧ mv_str G h1 r ((t.drop i).take (e - i)) ∧ mv_made h h1) := by
  obtain ⟨d, rfl⟩ : ∃ e, d = e + 1 := ⟨d - 1, by omega⟩
  obtain ⟨q, x, y, f, fa, fq, h3, h4, h5⟩ := mv_str_at hs
  show mv_rq l G mJ0_substring_37a41 (d + 1) 0 [some (.ref a), some (.int (nI i)), some (.int (nI e)), none, none] [] h _
  refine q_aload_n dJ0_substring_37a41_0 rfl ?_
  refine q_cV (Y := mJ0_length_8abf5) (As := []) (st := []) (b := a) (ci := 0) vc_J0_length_8abf5 dJ0_substring_37a41_1 ml_RJ0_505 rfl fa rfl (Nat.le_of_ble_eq_true rfl) rfl (Nat.le_of_ble_eq_true rfl) (sp_lenT hG hs (by omega)) (fun v h1 hq => ?_) (fun E h1 hq => nomatch hq.1)
  obtain ⟨hv, rfl⟩ := hq
  cases hv
  show mv_rq l G mJ0_substring_37a41 (d + 1) 4 [some (.ref a), some (.int (nI i)), some (.int (nI e)), none, none] [.int (nI t.length)] h _
  refine q_istore_n dJ0_substring_37a41_4 (Nat.le_of_ble_eq_true rfl) rfl ?_
  show mv_rq l G mJ0_substring_37a41 (d + 1) 5 [some (.ref a), some (.int (nI i)), some (.int (nI e)), some (.int (nI t.length)), none] [] h _
  refine q_iload_n dJ0_substring_37a41_5 rfl ?_
  refine q_iload_n dJ0_substring_37a41_6 rfl ?_
  refine q_iload_n dJ0_substring_37a41_7 rfl ?_
  refine q_cS (Y := mJ0_checkBoundsBeginEnd_23922) (As := [.int (nI i), .int (nI e), .int (nI t.length)]) (st := []) sc_J0_checkBoundsBeginEnd_23922 dJ0_substring_37a41_8 ml_RJ0_521 rfl (Nat.le_of_ble_eq_true rfl) rfl (Nat.le_of_ble_eq_true rfl) (sp_cbe hG (nI_pos (by omega)) (nI_nlt hie (by omega)) (nI_le hel (by omega)) (by omega)) (fun v h1 hq => ?_) (fun E h1 hq => nomatch hq.1)
  obtain ⟨hv, rfl⟩ := hq
  cases hv
  show mv_rq l G mJ0_substring_37a41 (d + 1) 11 [some (.ref a), some (.int (nI i)), some (.int (nI e)), some (.int (nI t.length)), none] [] h _
  refine q_iload_n dJ0_substring_37a41_11 rfl ?_
  refine q_if_ne (tgt := 22) dJ0_substring_37a41_12 (by decide) (fun _ => ?_) (fun z => absurd z (fun z9 => hi0 ((nI_eq (a := i) (b := 0) (by omega) (by omega)).mp z9)))
  refine q_iload_n dJ0_substring_37a41_22 rfl ?_
  refine q_iload_n dJ0_substring_37a41_23 rfl ?_
  refine q_isub dJ0_substring_37a41_24 ?_
  rw [nsub hie]
  show mv_rq l G mJ0_substring_37a41 (d + 1) 25 [some (.ref a), some (.int (nI i)), some (.int (nI e)), some (.int (nI t.length)), none] [.int (nI (e - i))] h _
  refine q_istore dJ0_substring_37a41_25 (Nat.le_of_ble_eq_true rfl) rfl ?_
  show mv_rq l G mJ0_substring_37a41 (d + 1) 27 [some (.ref a), some (.int (nI i)), some (.int (nI e)), some (.int (nI t.length)), some (.int (nI (e - i)))] [] h _
  refine q_aload_n dJ0_substring_37a41_27 rfl ?_
  refine q_cV (Y := mJ0_isLatin1_aae02) (As := []) (st := []) (b := a) (ci := 0) vc_J0_isLatin1_aae02 dJ0_substring_37a41_28 ml_RJ0_492 rfl fa rfl (Nat.le_of_ble_eq_true rfl) rfl (Nat.le_of_ble_eq_true rfl) (sp_isLatin1 hG fa (by omega)) (fun v h1 hq => ?_) (fun E h1 hq => nomatch hq.1)
  obtain ⟨hv, rfl⟩ := hq
  cases hv
  show mv_rq l G mJ0_substring_37a41 (d + 1) 31 [some (.ref a), some (.int (nI i)), some (.int (nI e)), some (.int (nI t.length)), some (.int (nI (e - i)))] [.int 1] h _
  refine q_if_eq (tgt := 47) dJ0_substring_37a41_31 (by decide) (fun z => absurd z (by decide)) (fun _ => ?_)
  refine q_aload_n dJ0_substring_37a41_34 rfl ?_
  refine q_getf (k := 0) (T := TJ0) (C0 := RJ0) (N := 4) (ci := 0) dJ0_substring_37a41_35 fl_RJ0_9 rfl uin_RJ0 (by decide) rfl fa rfl ?_
  refine q_iload_n dJ0_substring_37a41_38 rfl ?_
  refine q_iload dJ0_substring_37a41_39 rfl ?_
  refine q_cS (Y := mJ1_newString_b4f7a) (As := [.ref q, .int (nI i), .int (nI (e - i))]) (st := []) sc_J1_newString_b4f7a dJ0_substring_37a41_41 ml_RJ0_685 rfl (Nat.le_of_ble_eq_true rfl) rfl (Nat.le_of_ble_eq_true rfl) (sp_newString hG fq h3 h4 h6 hz hzs hwf hbs (i := i) (n := e - i) (by omega) (Or.inl hi0) hn8 (by omega)) (fun v h1 hq => ?_) (fun E h1 hq => by obtain ⟨r, hv, _⟩ := hq; cases hv)
  obtain ⟨r, hv, hm⟩ := hq
  cases hv
  show mv_rq l G mJ0_substring_37a41 (d + 1) 44 [some (.ref a), some (.int (nI i)), some (.int (nI e)), some (.int (nI t.length)), some (.int (nI (e - i)))] [.ref r] h1 _
  refine q_goto (tgt := 57) dJ0_substring_37a41_44 (by decide) ?_
  exact q_aret (rt := (.object "java/lang/String")) dJ0_substring_37a41_57 rfl (Or.inl ⟨_, rfl⟩) (Or.inr ⟨_, rfl⟩) ⟨r, rfl, hm⟩
