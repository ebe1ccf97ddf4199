theorem nB0 : narrow .boolean (.int 0) = .int 0 ∧ fits .boolean (.int 0) = true := ⟨rfl, rfl⟩
theorem nB1 : narrow .boolean (.int 1) = .int 1 ∧ fits .boolean (.int 1) = true := ⟨rfl, rfl⟩
theorem nBb (b : Bool) : narrow .boolean (.int (b2i b)) = .int (b2i b) ∧ fits .boolean (.int (b2i b)) = true := by
  cases b
  · exact nB0
  · exact nB1
section CN
variable {l : Launch} {G : mv_G} {d a : Nat} {h : mv_H}
theorem sp_pInit {f1 f2 f3 f4 f5 : Value} (b : Bool) (hG : mv_ok G) (ha : h.2.2 a = some (.inr (6, [f1, f2, f3, f4, f5]))) (hb : G.2.2.1 ≤ a) : mv_rq l G mX4_init (d + 1) 0 (mv_in [.ref a, .int (b2i b)] 2) [] h (fun o h1 => o = .inl none ∧ mv_set h a (cPth (b2i b) none none 0 1) = h1) := by
  refine v_X4_init hG ?_
  unfold w_X4_init
  refine vpu_of ha hb (show 1 < 5 by decide) rfl (vpu_of hs_s hb (show 2 < 5 by decide) rfl (vpu_of hs_s hb (show 3 < 5 by decide) rfl (vpu_of hs_s hb (show 4 < 5 by decide) rfl ⟨(nBb b).1, (nBb b).2, vpu_of hs_s hb (show 0 < 5 by decide) rfl ⟨rfl, ?_⟩⟩)))
  simp only [mv_set_set]
  rfl
theorem sp_gInit {f1 f2 f3 f4 : Value} (b : Bool) (hG : mv_ok G) (ha : h.2.2 a = some (.inr (9, [f1, f2, f3, f4]))) (hb : G.2.2.1 ≤ a) : mv_rq l G mX7_init (d + 1) 0 (mv_in [.ref a, .int (b2i b)] 2) [] h (fun o h1 => o = .inl none ∧ mv_set h a (cSeg (b2i b) none none none) = h1) := by
  refine v_X7_init hG ?_
  unfold w_X7_init
  refine vpu_of ha hb (show 1 < 4 by decide) rfl (vpu_of hs_s hb (show 2 < 4 by decide) rfl (vpu_of hs_s hb (show 3 < 4 by decide) rfl ⟨(nBb b).1, (nBb b).2, vpu_of hs_s hb (show 0 < 4 by decide) rfl ⟨rfl, ?_⟩⟩))
  simp only [mv_set_set]
  rfl
theorem sp_sInit {f1 f2 f3 f4 f5 f6 f7 f8 f9 : Value} {kd : Int32} {z : Nat} (hG : mv_ok G) (ha : h.2.2 a = some (.inr (10, [f1, f2, f3, f4, f5, f6, f7, f8, f9]))) (hb : G.2.2.1 ≤ a) (hz : mv_lt G RX8 7 "" z) : mv_rq l G mX8_init (d + 1) 0 (mv_in [.ref a, .int kd] 2) [] h (fun o h1 => o = .inl none ∧ mv_set h a (cSel kd z 0 0 1 0 0 none none) = h1) := by
  refine v_X8_init hG ?_
  unfold w_X8_init
  refine vst_of hz (vpu_of ha hb (show 1 < 9 by decide) rfl (vpu_of hs_s hb (show 2 < 9 by decide) rfl (vpu_of hs_s hb (show 3 < 9 by decide) rfl (vpu_of hs_s hb (show 4 < 9 by decide) rfl (vpu_of hs_s hb (show 5 < 9 by decide) rfl (vpu_of hs_s hb (show 6 < 9 by decide) rfl (vpu_of hs_s hb (show 7 < 9 by decide) rfl (vpu_of hs_s hb (show 8 < 9 by decide) rfl (vpu_of hs_s hb (show 0 < 9 by decide) rfl ⟨rfl, ?_⟩)))))))))
  simp only [mv_set_set]
  rfl
theorem sp_tInit {f1 f2 f3 f4 f5 f6 f7 f8 : Value} {kd : Int32} (hG : mv_ok G) (ha : h.2.2 a = some (.inr (11, [f1, f2, f3, f4, f5, f6, f7, f8]))) (hb : G.2.2.1 ≤ a) : mv_rq l G mX9_init (d + 1) 0 (mv_in [.ref a, .int kd] 2) [] h (fun o h1 => o = .inl none ∧ mv_set h a (cTst kd none none none none none 0 none) = h1) := by
  refine v_X9_init hG ?_
  unfold w_X9_init
  refine vpu_of ha hb (show 1 < 8 by decide) rfl (vpu_of hs_s hb (show 2 < 8 by decide) rfl (vpu_of hs_s hb (show 3 < 8 by decide) rfl (vpu_of hs_s hb (show 4 < 8 by decide) rfl (vpu_of hs_s hb (show 5 < 8 by decide) rfl (vpu_of hs_s hb (show 6 < 8 by decide) rfl (vpu_of hs_s hb (show 7 < 8 by decide) rfl (vpu_of hs_s hb (show 0 < 8 by decide) rfl ⟨rfl, ?_⟩)))))))
  simp only [mv_set_set]
  rfl
theorem sp_vInit {f1 f2 f3 f4 f5 f6 f7 f8 f9 f10 : Value} {z : Nat} (hG : mv_ok G) (ha : h.2.2 a = some (.inr (13, [f1, f2, f3, f4, f5, f6, f7, f8, f9, f10]))) (hb : G.2.2.1 ≤ a) (hz : mv_lt G RX11 18 "" z) : mv_rq l G mX11_init (d + 1) 0 (mv_in [.ref a] 1) [] h (fun o h1 => o = .inl none ∧ mv_set h a (valE 0 0 z (-1) z (-1) 0 0 0 0) = h1) := by
  refine v_X11_init hG ?_
  unfold w_X11_init
  refine vpu_of ha hb (show 0 < 10 by decide) rfl (vpu_of hs_s hb (show 1 < 10 by decide) rfl (vst_of hz (vpu_of hs_s hb (show 2 < 10 by decide) rfl (vpu_of hs_s hb (show 3 < 10 by decide) rfl (vst_of hz (vpu_of hs_s hb (show 4 < 10 by decide) rfl (vpu_of hs_s hb (show 5 < 10 by decide) rfl (vpu_of hs_s hb (show 6 < 10 by decide) rfl (vpu_of hs_s hb (show 7 < 10 by decide) rfl (vpu_of hs_s hb (show 8 < 10 by decide) rfl (vpu_of hs_s hb (show 9 < 10 by decide) rfl ⟨rfl, ?_⟩)))))))))))
  simp only [mv_set_set]
  rfl
theorem mv_swap {h : mv_H} {a b : Nat} {e e' : va_E} (hn : a ≠ b) : mv_set (mv_set h a e) b e' = mv_set (mv_set h b e') a e := by
  unfold mv_set
  simp only [Prod.mk.injEq, true_and]
  funext x
  by_cases h1 : x = a
  · subst h1; rw [if_neg hn, if_pos rfl, if_pos rfl]
  · by_cases h2 : x = b
    · subst h2; rw [if_pos rfl, if_neg h1, if_pos rfl]
    · rw [if_neg h2, if_neg h1, if_neg h1, if_neg h2]
theorem mv_nset {h : mv_H} {a n : Nat} {e e' : va_E} (hn : a ≠ h.1) : mv_new (mv_set h a e) n e' = mv_set (mv_new h n e') a e := by
  unfold mv_set mv_new
  simp only [Prod.mk.injEq, true_and]
  funext x
  by_cases h1 : x = a
  · subst h1; rw [if_neg hn, if_pos rfl, if_pos rfl]
  · by_cases h2 : x = h.1
    · subst h2; rw [if_pos rfl, if_neg h1, if_pos rfl]
    · rw [if_neg h2, if_neg h1, if_neg h1, if_neg h2]
/-- a new Thing at the end of the heap, and its value behind it -/
theorem sp_hInit {f1 f2 f3 f4 : Value} {kd : Int32} {z n : Nat} (hG : mv_ok G) (hw : mv_wf h) (hb : G.2.2.1 ≤ h.1) (hz : mv_lt G RX11 18 "" z) : mv_rq l G mX10_init (d + 2) 0 (mv_in [.ref h.1, .int kd] 2) [] (mv_new h n (.inr (12, [f1, f2, f3, f4]))) (fun o h1 => o = .inl none ∧ mv_new (mv_new h n (cThg kd none none (h.1 + 1))) 10 (valE 0 0 z (-1) z (-1) 0 0 0 0) = h1) := by
  refine v_X10_init hG ?_
  unfold w_X10_init
  refine vpu_of hn_s hb (show 1 < 4 by decide) rfl (vpu_of hs_s hb (show 2 < 4 by decide) rfl (vnw_of ?_))
  rw [mv_set_set, mv_set_new]
  refine vU_of (sp_vInit hG hn_s (Nat.le_succ_of_le hb) hz) ?_
  rw [mv_set_new]
  have e1 : (mv_new (mv_new h n (.inr (12, [f1, f2, f3, f4].set 1 .null |>.set 2 .null))) 10 (valE 0 0 z (-1) z (-1) 0 0 0 0)).2.2 h.1 = some (.inr (12, [f1, .null, .null, f4])) := by
    rw [hn_n (show h.1 ≠ h.1 + 1 by omega)]
    exact hn_s
  refine vpu_of e1 hb (show 3 < 4 by decide) rfl (vpu_of hs_s hb (show 0 < 4 by decide) rfl ⟨rfl, ?_⟩)
  rw [mv_set_set, ← mv_nset (show h.1 ≠ h.1 + 1 by omega), mv_set_new]
  rfl
end CN
section AD
variable {l : Launch} {G : mv_G} {d a b : Nat} {h : mv_H}
/-- the parts of a test: one more -/
theorem sp_tAdd {kd rel : Int32} {fr la nx pa le ri : Option Nat} (hG : mv_ok G) (ha : h.2.2 a = some (cTst kd fr la nx pa le rel ri)) (hb : G.2.2.1 ≤ a) (hl : ∀ x, la = some x → x ≠ a ∧ G.2.2.1 ≤ x ∧ ∃ fs, h.2.2 x = some (.inr (11, fs)) ∧ 3 < fs.length) : mv_rq l G mX9_add d 0 (mv_in [.ref a, .ref b] 2) [] h (fun o h1 => o = .inl none ∧ (la = none → mv_set h a (cTst kd (some b) (some b) nx pa le rel ri) = h1) ∧ ∀ x fs, la = some x → h.2.2 x = some (.inr (11, fs)) → mv_set (mv_set h x (.inr (11, fs.set 3 (.ref b)))) a (cTst kd fr (some b) nx pa le rel ri) = h1) := by
  refine v_X9_add hG ?_
  unfold w_X9_add
  refine vgr_of ha rfl ?_
  cases la with
  | none =>
    refine vnl_y (vpu_of ha hb (show 1 < 8 by decide) rfl (v_X9_add_23 hG ?_))
    unfold w_X9_add_23
    refine vpu_of hs_s hb (show 2 < 8 by decide) rfl ⟨rfl, fun _ => ?_, fun x fs z => by cases z⟩
    rw [mv_set_set]; rfl
  | some x =>
    obtain ⟨h1, h2, fs, h3, h4⟩ := hl x rfl
    refine ⟨fun z => (by cases z), fun y hy => ?_⟩
    cases hy
    refine vgr_of ha rfl (vnn_of (vpu_of h3 h2 h4 rfl (v_X9_add_23 hG ?_)))
    unfold w_X9_add_23
    have ha2 : (mv_set h x (.inr (11, fs.set 3 (.ref b)))).2.2 a = some (cTst kd fr (some x) nx pa le rel ri) := by rw [hs_n (fun z => h1 z.symm)]; exact ha
    refine vpu_of ha2 hb (show 2 < 8 by decide) rfl ⟨rfl, fun z => by (cases z), fun y fs' hy hf => ?_⟩
    cases hy
    rw [h3] at hf
    cases hf
    rfl
theorem sp_gAdd {bw : Int32} {fr la nx : Option Nat} (hG : mv_ok G) (ha : h.2.2 a = some (cSeg bw fr la nx)) (hb : G.2.2.1 ≤ a) (hl : ∀ x, la = some x → x ≠ a ∧ G.2.2.1 ≤ x ∧ ∃ fs, h.2.2 x = some (.inr (10, fs)) ∧ 8 < fs.length) : mv_rq l G mX7_add d 0 (mv_in [.ref a, .ref b] 2) [] h (fun o h1 => o = .inl none ∧ (la = none → mv_set h a (cSeg bw (some b) (some b) nx) = h1) ∧ ∀ x fs, la = some x → h.2.2 x = some (.inr (10, fs)) → mv_set (mv_set h x (.inr (10, fs.set 8 (.ref b)))) a (cSeg bw fr (some b) nx) = h1) := by
  refine v_X7_add hG ?_
  unfold w_X7_add
  refine vgr_of ha rfl ?_
  cases la with
  | none =>
    refine vnl_y (vpu_of ha hb (show 1 < 4 by decide) rfl (v_X7_add_23 hG ?_))
    unfold w_X7_add_23
    refine vpu_of hs_s hb (show 2 < 4 by decide) rfl ⟨rfl, fun _ => ?_, fun x fs z => by cases z⟩
    rw [mv_set_set]; rfl
  | some x =>
    obtain ⟨h1, h2, fs, h3, h4⟩ := hl x rfl
    refine ⟨fun z => (by cases z), fun y hy => ?_⟩
    cases hy
    refine vgr_of ha rfl (vnn_of (vpu_of h3 h2 h4 rfl (v_X7_add_23 hG ?_)))
    unfold w_X7_add_23
    have ha2 : (mv_set h x (.inr (10, fs.set 8 (.ref b)))).2.2 a = some (cSeg bw fr (some x) nx) := by rw [hs_n (fun z => h1 z.symm)]; exact ha
    refine vpu_of ha2 hb (show 2 < 4 by decide) rfl ⟨rfl, fun z => by (cases z), fun y fs' hy hf => ?_⟩
    cases hy
    rw [h3] at hf
    cases hf
    rfl
end AD
