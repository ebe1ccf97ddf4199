/-- the tables of digits -/
def dgE (G : mv_G) (h : mv_H) : Prop := ∃ (q1 q2 : Nat) (f1 f2 : Nat → Int32), mv_sta G "DigitOnes" q1 ∧ mv_sta G "DigitTens" q2 ∧ (q1 < G.2.2.1 ∧ q2 < G.2.2.1) ∧ h.2.2 q1 = some (.inl (mv_t G 0, 100, .inl f1)) ∧ h.2.2 q2 = some (.inl (mv_t G 0, 100, .inl f2)) ∧ (∀ j, j < 100 → f1 j = nI (48 + j % 10)) ∧ ∀ j, j < 100 → f2 j = nI (48 + j / 10)
theorem dgE.kT {G : mv_G} {h h1 : mv_H} (e : dgE G h) (k : ksT G h h1) : dgE G h1 := by
  obtain ⟨q1, q2, f1, f2, a1, a2, a3, a4, a5, a6⟩ := e
  exact ⟨q1, q2, f1, f2, a1, a2, a3, k.1 _ _ a4 (Or.inr ⟨_, rfl⟩), k.1 _ _ a5 (Or.inr ⟨_, rfl⟩), a6⟩
theorem dgE.kV {G : mv_G} {h h1 : mv_H} {v : Nat} (e : dgE G h) (k : ksV G h h1 v) (hv : G.2.2.1 ≤ v) : dgE G h1 := by
  obtain ⟨q1, q2, f1, f2, a1, a2, a3, a4, a5, a6⟩ := e
  exact ⟨q1, q2, f1, f2, a1, a2, a3, k.1 _ _ a4 (Or.inr ⟨_, rfl⟩) (by omega), k.1 _ _ a5 (Or.inr ⟨_, rfl⟩) (by omega), a6⟩
theorem nI_negneg (n : Nat) : -(-(nI n)) = nI n := Int32.neg_neg
theorem nI_prd {n : Nat} : nI (n + 1) + (-1) = nI n := by
  rw [← nI_add, show nI 1 = 1 from rfl, Int32.add_assoc, show (1 : Int32) + (-1) = 0 from rfl, Int32.add_zero]
theorem dg100 : ∀ n, n < 100 → ¬ nI n < 0 ∧ (0 : Int32) ≤ nI n ∧ (-100 < -(nI n)) ∧ (((-9) ≤ -(nI n)) ↔ n < 10) ∧ ((-(nI n) ≤ (-10)) ↔ 10 ≤ n) ∧ ¬ (-(nI n) ≤ (10 * (-10) : Int32)) := by decide +kernel
section SG
variable {l : Launch} {G : mv_G} {d b v cap : Nat} {h : mv_H} {t : List Nat}
theorem sp_size {n : Nat} (hG : mv_ok G) (hn : n < 100) : mv_rq l G mJ6_stringSize_0f7a4 d 0 (mv_in [.int (nI n)] 4) [] h (fun o h1 => o = .inl (some (.int (nI (dgt n).length))) ∧ h = h1) := by
  obtain ⟨c1, c2, c3, c4, c5, c6⟩ := dg100 n hn
  refine v_J6_stringSize_0f7a4 hG ?_
  unfold w_J6_stringSize_0f7a4
  refine vif_n c1 (v_J6_stringSize_0f7a4_11 hG ?_)
  unfold w_J6_stringSize_0f7a4_11
  refine v_J6_stringSize_0f7a4_16 hG ?_
  unfold w_J6_stringSize_0f7a4_16
  refine vif_n (by decide) (vif_of (fun c => ?_) (fun c => ⟨?_, rfl⟩))
  · refine v_J6_stringSize_0f7a4_16 hG ?_
    unfold w_J6_stringSize_0f7a4_16
    refine vif_n (by decide) (vif_n c6 ⟨?_, rfl⟩)
    unfold dgt
    rw [if_pos (by have := c5.mp c; omega)]
    rfl
  · unfold dgt
    rw [if_neg (by have : ¬ 10 ≤ n := fun z => c (c5.mpr z); omega)]
    rfl
theorem dgt_lk {n : Nat} (hn : n < 100) : (∀ j, lk (dgt n) j < 128) ∧ (n < 10 → dgt n = [48 + n % 10]) ∧ (10 ≤ n → dgt n = [48 + n / 10, 48 + n % 10]) := by
  refine ⟨fun j => ?_, fun h => ?_, fun h => ?_⟩
  · unfold dgt lk
    split
    · rcases j with _ | _ | j <;> simp <;> omega
    · rcases j with _ | j <;> simp <;> omega
  · unfold dgt; rw [if_neg (by omega)]
  · unfold dgt; rw [if_pos (by omega)]
/-- the digits of a number, backwards from the place p -/
theorem sp_getC {n p : Nat} {f : Nat → Int32} (hG : mv_ok G) (hn : n < 100) (he : dgE G h) (hv : h.2.2 v = some (.inl (mv_t G 0, cap, .inl f))) (hbv : G.2.2.1 ≤ v) (hp : p + (dgt n).length ≤ cap) (hc : cap ≤ 700) : mv_rq l G mJ6_getChars_ba4f3 d 0 (mv_in [.int (nI n), .int (nI (p + (dgt n).length)), .ref v] 7) [] h (fun o h1 => (∃ x, o = .inl (some (.int x))) ∧ ∃ g : Nat → Int32, mv_set h v (.inl (mv_t G 0, cap, .inl g)) = h1 ∧ ∀ j, g j = if p ≤ j ∧ j < p + (dgt n).length then nI (lk (dgt n) (j - p)) else f j) := by
  obtain ⟨c1, c2, c3, c4, c5, c6⟩ := dg100 n hn
  obtain ⟨q1, q2, f1, f2, a1, a2, a3, a4, a5, a6, a7⟩ := he
  refine v_J6_getChars_ba4f3 hG ?_
  unfold w_J6_getChars_ba4f3
  refine vif_y c2 (v_J6_getChars_ba4f3_12 hG ?_)
  unfold w_J6_getChars_ba4f3_12
  refine vif_y rfl (v_J6_getChars_ba4f3_22 hG ?_)
  unfold w_J6_getChars_ba4f3_22
  refine vif_y c3 ⟨q1, a1, vai_of a4 (nI_negneg n) hn (by omega) ?_⟩
  rw [a6 n hn, vnB _ (by omega)]
  have hq2 : q2 ≠ v := by omega
  by_cases c : n < 10
  · have ed := (dgt_lk hn).2.1 c
    rw [ed] at hp ⊢
    have hp' : p + 1 ≤ cap := hp
    show vsi G h v 0 (nI (p + 1) + (-1)) _ _
    refine vsi_of hv hbv nI_prd (show p < cap by omega) (by omega) (vif_y (c4.mpr c) (v_J6_getChars_ba4f3_104 hG ?_))
    unfold w_J6_getChars_ba4f3_104
    refine vif_y rfl ⟨⟨_, rfl⟩, _, rfl, fun j => ?_⟩
    unfold upd
    by_cases e : j = p
    · subst e; rw [if_pos rfl, if_pos ⟨Nat.le_refl _, by simp⟩, Nat.sub_self]; rfl
    · rw [if_neg e, if_neg (by simp; omega)]
  · have ed := (dgt_lk hn).2.2 (by omega)
    rw [ed] at hp ⊢
    have hp' : p + 1 + 1 ≤ cap := hp
    show vsi G h v 0 (nI (p + 1 + 1) + (-1)) _ _
    refine vsi_of hv hbv nI_prd (show p + 1 < cap by omega) (by omega) (vif_n (fun z => c (c4.mp z)) ⟨q2, a2, vai_of (f := f2) (n := 100) ?_ (nI_negneg n) hn (by omega) ?_⟩)
    · rw [hs_n hq2]; exact a5
    · rw [a7 n hn, vnB _ (by omega)]
      show vsi G _ v 0 (nI (p + 1 + 1) + (-1) + (-1)) _ _
      rw [nI_prd]
      refine vsi_of hs_s hbv nI_prd (show p < cap by omega) (by omega) (v_J6_getChars_ba4f3_104 hG ?_)
      unfold w_J6_getChars_ba4f3_104
      rw [mv_set_set]
      refine vif_y rfl ⟨⟨_, rfl⟩, _, rfl, fun j => ?_⟩
      unfold upd
      by_cases e : j = p
      · subst e; rw [if_pos rfl, if_pos ⟨Nat.le_refl _, by simp⟩, Nat.sub_self]; rfl
      · rw [if_neg e]
        by_cases e2 : j = p + 1
        · subst e2; rw [if_pos rfl, if_pos ⟨by omega, by simp⟩, show p + 1 - p = 1 by omega]; rfl
        · rw [if_neg e2, if_neg (by simp; omega)]
/-- a number is put behind a builder's letters -/
theorem sp_sbI {n : Nat} (hG : mv_ok G) (hX : mv_okX l G) (hS : mv_sb G h b v cap t) (hc : cap ≤ 700) (he : dgE G h) (hn9 : n < 100) (hn : t.length + 2 ≤ 300) (hw : mv_wf h) (hb : G.2.2.1 ≤ h.1) (hd : 9 ≤ d) : mv_rq l G mJ4_append_bf812 (d + 1) 0 (mv_in [.ref b, .int (nI n)] 2) [] h (fun o h1 => o = .inl (some (.ref b)) ∧ ∃ v' cap', mv_sb G h1 b v' cap' (t ++ dgt n) ∧ cap' ≤ 700 ∧ sbG G h h1 b v v' cap cap') := by
  obtain ⟨d, rfl⟩ : ∃ d', d = d' + 2 := ⟨d - 2, by omega⟩
  obtain ⟨f0, mb0, s1, s2, s3, s4, s5, s6, s7, s8, s9⟩ := id hS
  have hdl := @dgt_len n
  refine v_J4_append_bf812 hG ?_
  unfold w_J4_append_bf812
  refine vob_of s1 ?_
  refine v_J5_append_c97b9 hG ?_
  unfold w_J5_append_c97b9
  refine vgi_of s1 rfl (vI_of (sp_size hG hn9) (vob_of s1 ?_))
  rw [nI_add]
  refine (sp_ens hG hX hS hc (by omega) hw hb (by omega)).mono fun o h1 hq => ?_
  obtain ⟨ho, v', cap', hS1, k1, k2, F1⟩ := hq
  refine Or.inl ⟨ho, ?_⟩
  obtain ⟨f, mb, q1, q2, q3, q4, q5, q6, q7, q8, q9⟩ := id hS1
  have hbv := hS1.ne
  refine vob_of q1 (vI_of (sp_sbLat hG hS1) (vif_n (by decide) (vgb_of q1 rfl ?_)))
  refine (sp_getC hG hn9 (he.kV F1.1.2.1 s9) q2 q9 k1 k2).mono fun o2 h2 hq2 => ?_
  obtain ⟨⟨x, hx⟩, g, hh, hg⟩ := hq2
  refine Or.inl ⟨x, hx, ?_⟩
  have F2 : sbF G h1 h2 b v' v' 0 := by rw [← hh]; exact sbF.seta F1.1.1.1 F1.1.1.2.1 q2
  have b2 : h2.2.2 b = some (.inr (1, [.ref v', .int 0, .int mb, .int (nI t.length)])) := by rw [← hh, hs_n hbv]; exact q1
  have a2 : h2.2.2 v' = some (.inl (mv_t G 0, cap', .inl g)) := by rw [← hh]; exact hs_s
  refine v_J5_append_c97b9_48 hG ?_
  unfold w_J5_append_c97b9_48
  refine vpu_of b2 q8 (show 3 < 4 by omega) rfl (Or.inl ⟨b, rfl, rfl, v', cap', ?_, k2, ?_⟩)
  · refine ⟨g, mb, ?_, ?_, fun j hj => ?_, fun j => ?_, fun j hj => ?_, ?_, q7, q8, q9⟩
    · rw [hs_s, List.length_append]; rfl
    · rw [hs_n (fun z => hbv z.symm)]; exact a2
    · rw [lk_app2, hg j]
      rw [List.length_append] at hj
      by_cases c : j < t.length
      · rw [if_neg (by omega), if_pos c]; exact q3 j c
      · rw [if_pos (by omega), if_neg c]
    · rw [lk_app2]
      split
      · exact q4 j
      · exact (dgt_lk hn9).1 _
    · rw [hg j]
      by_cases c : t.length ≤ j ∧ j < t.length + (dgt n).length
      · rw [if_pos c]; exact ⟨_, (dgt_lk hn9).1 _, rfl⟩
      · rw [if_neg c]; exact q5 j hj
    · rw [List.length_append]; exact k1
  · exact F1.trF hw (F2.tr (k := 0) (k2 := 0) F1.1.1.1 (sbF.setb F2.1.1 F2.1.2.1 b2) (Nat.le_refl 0))
end SG
