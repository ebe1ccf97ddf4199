section KP
variable {l : Launch} {G : mv_G} {d x z z2 : Nat} {h : mv_H} {v0 v1 v2 v3 : Value}
/-- rows made so far -/
def IFd (G : mv_G) (h0 h : mv_H) (x j : Nat) : Prop := (h.1 = x + 2 + 2 * j ∧ h.2.2 x = some (.inr (5, [.ref (x + 1), .null, .int 0]))) ∧ (∃ g, h.2.2 (x + 1) = some (.inl (mv_t G 5, 10, .inr (.inr (.inr (.inr g))))) ∧ ∀ i, i < j → g i = some (x + 2 + 2 * i)) ∧ (∀ i, i < j → hrw G h (x + 2 + 2 * i) []) ∧ gwn h0 h x (1 + 2 * j) (10 + 302 * j)
theorem hrw.g {h1 : mv_H} {R y k s : Nat} {row : List Nat} (H : hrw G h R row) (g : gwn h h1 y k s) (hw : mv_wf h) (n1 : y ≠ R) (n2 : y ≠ R + 1) : hrw G h1 R row := by
  obtain ⟨a, ⟨f, b, c⟩, e⟩ := H
  exact ⟨g.at hw a (fun z => n1 z.symm), ⟨f, g.at hw b (fun z => n2 z.symm), c⟩, e⟩
theorem i3L {h0 : mv_H} (hG : mv_ok G) (hb : G.2.2.1 ≤ x) (h00 : h0.1 = x + 1) (hd : 1 ≤ d) : ∀ (m j : Nat) (h : mv_H), j + m = 10 → IFd G h0 h x j → mv_rq l G mX3_init (d + 1) 25 [some (.ref x), some (.int (nI j))] [] h (fun o h1 => o = .inl none ∧ IFd G h0 h1 x 10) := by
  obtain ⟨d, rfl⟩ : ∃ d', d = d' + 1 := ⟨d - 1, by omega⟩
  intro m
  induction m with
  | zero =>
    intro j h hj H
    obtain rfl : j = 10 := by omega
    refine v_X3_init_25 hG ?_
    unfold w_X3_init_25
    obtain ⟨g, a1, a2⟩ := H.2.1
    exact vgb_of H.1.2 rfl (vln_of a1 (vif_y (nI_le (by omega) (by omega)) ⟨rfl, H⟩))
  | succ m ih =>
    intro j h hj H
    refine v_X3_init_25 hG ?_
    unfold w_X3_init_25
    obtain ⟨⟨b1, b2⟩, ⟨g, a1, a2⟩, a3, a4⟩ := H
    have hw := a4.1
    refine vgb_of b2 rfl (vln_of a1 (vif_n (fun z => absurd ((nI_leI (by omega) (by omega)).mp z) (by show ¬ 10 ≤ j; omega)) (vgb_of b2 rfl (vnw_of ?_))))
    refine (sp_i6 hG (mv_wf_new hw) nw_s (by omega) rfl).mono fun o h1 q => Or.inl ⟨q.1, ?_⟩
    obtain ⟨_, q2, q3⟩ := q
    have g1 : gwn h (mv_new h 2 (.inr (8, [.null, .int 0]))) x 1 2 := gwn.new hw (by decide)
    have hh0 := a4.2.1
    have k1 : ∀ (a : Nat) (e : va_E), h.2.2 a = some e → h1.2.2 a = some e := fun a e he => by
      have := mv_wf_lt hw he
      refine q3.at (mv_wf_new hw) ?_ (by omega)
      rw [nw_n (by omega)]
      exact he
    have g2 := (a4.tr g1 (Or.inl rfl)).tr q3 (Or.inr (by omega))
    have e1 := k1 _ _ a1
    refine vsa_of e1 q2.1 (by omega) rfl (show j < 10 by omega) (by omega) ?_
    have g3 : gwn h1 (mv_set h1 (x + 1) (.inl (mv_t G 5, 10, .inr (.inr (.inr (.inr (va_up g j (some h.1)))))))) (x + 1) 0 0 := gwn.seta q3.1 e1
    rw [nI_1]
    refine ih (j + 1) _ (by omega) ⟨⟨?_, ?_⟩, ⟨_, hs_s, fun i hi => ?_⟩, fun i hi => ?_, ?_⟩
    · have u1 := q3.2.1
      have u2 : (mv_new h 2 (.inr (8, [.null, .int 0]))).1 = h.1 + 1 := rfl
      show h1.1 = _
      omega
    · rw [hs_n (by omega)]
      exact k1 _ _ b2
    · by_cases c : i = j
      · subst c
        rw [va_up_self, b1]
      · rw [va_up_ne _ _ c]
        exact a2 i (by omega)
    · by_cases c : i = j
      · subst c
        rw [← b1]
        exact q2.g g3 q3.1 (by omega) (by omega)
      · have w := a3 i (by omega)
        have w1 : hrw G h1 (x + 2 + 2 * i) [] := by
          obtain ⟨c1, ⟨f, c2, c3⟩, c4⟩ := w
          exact ⟨k1 _ _ c1, ⟨f, k1 _ _ c2, c3⟩, c4⟩
        exact w1.g g3 q3.1 (by omega) (by omega)
    · have g4 := g2.tr g3 (Or.inr (by omega))
      have u : 1 + 2 * j + 1 + 1 + 0 = 1 + 2 * (j + 1) := by omega
      have u' : 10 + 302 * j + 2 + 300 + 0 = 10 + 302 * (j + 1) := by omega
      rw [← u, ← u']
      exact g4
theorem sp_i3 (hG : mv_ok G) (hw : mv_wf h) (hx : h.2.2 x = some (.inr (5, [.null, .null, .int 0]))) (hb : G.2.2.1 ≤ x) (hh : h.1 = x + 1) (hd : 1 ≤ d) : mv_rq l G mX3_init (d + 1) 0 (mv_in [.ref x] 2) [] h (fun o h1 => o = .inl none ∧ FR G h1 x ∧ gwn h h1 x 21 3030) := by
  refine v_X3_init hG ?_
  unfold w_X3_init
  have e1 : (mv_new h 10 (.inl (mv_t G 5, 10, .inr (.inr (.inr (.inr (fun _ => none))))))).2.2 x = some (.inr (5, [.null, .null, .int 0])) := by rw [nw_n (by omega)]; exact hx
  refine vnw_of (vpu_of e1 hb (show 0 < 3 by omega) rfl (vpu_of hs_s hb (show 1 < 3 by omega) rfl (vpu_of hs_s hb (show 2 < 3 by omega) rfl ?_)))
  rw [mv_set_set, mv_set_set]
  refine (i3L (h0 := h) hG hb hh hd 10 0 _ rfl ⟨⟨?_, ?_⟩, ⟨_, (hs_n (by omega)).trans ((congrArg _ hh.symm).trans nw_s), fun i hi => absurd hi (Nat.not_lt_zero _)⟩, fun i hi => absurd hi (Nat.not_lt_zero _), ?_⟩).mono fun o h1 q => ⟨q.1, ⟨⟨_, _, q.2.1.2⟩, q.2.2.1, fun i hi => ⟨[], q.2.2.2.1 i hi⟩⟩, q.2.2.2.2⟩
  · show h.1 + 1 = _
    omega
  · rw [hs_s, hh]
    rfl
  · exact (gwn.newa hw).tr (gwn.set (mv_wf_new hw) e1 (by decide)) (Or.inl rfl)
theorem sp_i11 (hG : mv_ok G) (hz : mv_lt G RX11 18 "" z) (hx : h.2.2 x = some (.inr (13, [.int 0, .int 0, .null, .int 0, .null, .int 0, .int 0, .int 0, .int 0, .int 0]))) (hb : G.2.2.1 ≤ x) : mv_rq l G mX11_init (d + 1) 0 (mv_in [.ref x] 1) [] h (fun o h1 => o = .inl none ∧ mv_set h x (valE 0 0 z (-1) z (-1) 0 0 0 0) = h1) := by
  refine v_X11_init hG ?_
  unfold w_X11_init
  refine vpu_of hx hb (show 0 < 10 by omega) rfl (vpu_of hs_s hb (show 1 < 10 by omega) rfl (vst_of hz (vpu_of hs_s hb (show 2 < 10 by omega) rfl (vpu_of hs_s hb (show 3 < 10 by omega) rfl (vst_of hz (vpu_of hs_s hb (show 4 < 10 by omega) rfl (vpu_of hs_s hb (show 5 < 10 by omega) rfl (vpu_of hs_s hb (show 6 < 10 by omega) rfl (vpu_of hs_s hb (show 7 < 10 by omega) rfl (vpu_of hs_s hb (show 8 < 10 by omega) rfl (vpu_of hs_s hb (show 9 < 10 by omega) rfl ⟨rfl, ?_⟩)))))))))))
  simp only [mv_set_set]
  rfl
theorem gwn.grid {y : Nat} (hw : mv_wf h) : gwn h (mv_grid G h) y 41 1640 := by
  refine ⟨fun a ha => ?_, rfl, rfl, fun a h1 _ => ?_, fun a fs q => ?_⟩
  · have ha' : h.1 + 41 ≤ a := ha
    show (if a = h.1 then _ else if h.1 < a ∧ a < h.1 + 41 then _ else h.2.2 a) = none
    rw [if_neg (by omega), if_neg (by omega)]
    exact hw a (by omega)
  · show (if a = h.1 then _ else if h.1 < a ∧ a < h.1 + 41 then _ else h.2.2 a) = _
    rw [if_neg (by omega), if_neg (by omega)]
  · have q' : (if a = h.1 then some (.inl (mv_t G 6, 40, .inr (.inr (.inr (.inr (fun j => some (h.1 + 1 + j))))))) else if h.1 < a ∧ a < h.1 + 41 then some (.inl (mv_t G 1, 40, .inl (fun _ => 0))) else h.2.2 a) = some (Sum.inr (0, fs)) := q
    by_cases c : a = h.1
    · rw [if_pos c] at q'
      cases q'
    · rw [if_neg c] at q'
      by_cases c2 : h.1 < a ∧ a < h.1 + 41
      · rw [if_pos c2] at q'
        cases q'
      · rw [if_neg c2] at q'
        exact q'
/-- values made so far -/
def IDc (G : mv_G) (h0 h : mv_H) (A z z2 j : Nat) : Prop := (h.1 = A + 43 + j ∧ h.2.2 A = some (.inr (3, [.ref (A + 1), .ref (A + 2), .ref z, .int 0]))) ∧ (∃ f, h.2.2 (A + 1) = some (.inl (mv_t G 4, 40, .inr (.inr (.inr (.inr f))))) ∧ ∀ i, i < j → f i = some (A + 43 + i)) ∧ (∃ f, h.2.2 (A + 2) = some (.inl (mv_t G 6, 40, .inr (.inr (.inr (.inr f))))) ∧ ∀ i, i < 40 → f i = some (A + 3 + i)) ∧ (∀ i, i < 40 → h.2.2 (A + 3 + i) = some (.inl (mv_t G 1, 40, .inl (fun _ => 0)))) ∧ (∀ i, i < j → h.2.2 (A + 43 + i) = some (valE 0 0 z2 (nI i) z2 (-1) 0 0 0 0)) ∧ gwn h0 h A (42 + j) (1680 + 10 * j)
theorem i1L {h0 : mv_H} (hG : mv_ok G) (hz2 : mv_lt G RX11 18 "" z2) (hb : G.2.2.1 ≤ x) (h00 : h0.1 = x + 1) (hd : 1 ≤ d) : ∀ (m j : Nat) (h : mv_H), j + m = 40 → IDc G h0 h x z z2 j → mv_rq l G mX1_init (d + 1) 38 [some (.ref x), some (.int (nI j))] [] h (fun o h1 => o = .inl none ∧ IDc G h0 h1 x z z2 40) := by
  obtain ⟨d, rfl⟩ : ∃ d', d = d' + 1 := ⟨d - 1, by omega⟩
  intro m
  induction m with
  | zero =>
    intro j h hj H
    obtain rfl : j = 40 := by omega
    refine v_X1_init_38 hG ?_
    unfold w_X1_init_38
    exact vif_y (nI_le (a := 40) (b := 40) (by omega) (by omega)) ⟨rfl, H⟩
  | succ m ih =>
    intro j h hj H
    refine v_X1_init_38 hG ?_
    unfold w_X1_init_38
    obtain ⟨⟨b1, b2⟩, ⟨f, a1, a2⟩, ⟨f', a3, a3'⟩, a4, a5, a6⟩ := H
    have hw := a6.1
    have c40 : ¬ ((40 : Int32) ≤ nI j) := fun z => absurd ((nI_leI (a := 40) (b := j) (by omega) (by omega)).mp z) (by omega)
    refine vif_n c40 (vgb_of b2 rfl (vnw_of (vU_of (sp_i11 hG hz2 nw_s (by omega)) ?_)))
    have g1 : gwn h (mv_new h 10 (.inr (13, [.int 0, .int 0, .null, .int 0, .null, .int 0, .int 0, .int 0, .int 0, .int 0]))) x 1 10 := gwn.new hw (by decide)
    have g2 : gwn _ (mv_set (mv_new h 10 (.inr (13, [.int 0, .int 0, .null, .int 0, .null, .int 0, .int 0, .int 0, .int 0, .int 0]))) h.1 (valE 0 0 z2 (-1) z2 (-1) 0 0 0 0)) h.1 0 0 := gwn.set (ci := 13) g1.1 nw_s (by decide)
    generalize e2 : mv_set (mv_new h 10 (.inr (13, [.int 0, .int 0, .null, .int 0, .null, .int 0, .int 0, .int 0, .int 0, .int 0]))) h.1 (valE 0 0 z2 (-1) z2 (-1) 0 0 0 0) = h2 at g2 ⊢
    have k2 : ∀ (a : Nat) (e : va_E), h.2.2 a = some e → h2.2.2 a = some e := fun a e he => by
      have := mv_wf_lt hw he
      refine g2.at g1.1 ?_ (by omega)
      rw [nw_n (by omega)]
      exact he
    have n2 : h2.2.2 h.1 = some (valE 0 0 z2 (-1) z2 (-1) 0 0 0 0) := by rw [← e2]; exact hs_s
    have hh2 : h2.1 = h.1 + 1 := by rw [← e2]; rfl
    have hl0 := a6.2.1
    have e1 := k2 _ _ a1
    refine vsa_of e1 n2 (by omega) rfl (show j < 40 by omega) (by omega) ?_
    have g3 : gwn h2 (mv_set h2 (x + 1) (.inl (mv_t G 4, 40, .inr (.inr (.inr (.inr (va_up f j (some h.1)))))))) (x + 1) 0 0 := gwn.seta g2.1 e1
    have n3 : (mv_set h2 (x + 1) (.inl (mv_t G 4, 40, .inr (.inr (.inr (.inr (va_up f j (some h.1)))))))).2.2 (x + 1) = some (.inl (mv_t G 4, 40, .inr (.inr (.inr (.inr (va_up f j (some h.1))))))) := hs_s
    generalize mv_set h2 (x + 1) (.inl (mv_t G 4, 40, .inr (.inr (.inr (.inr (va_up f j (some h.1))))))) = h3 at g3 n3 ⊢
    have k3 : ∀ (a : Nat) (e : va_E), h.2.2 a = some e → a ≠ x + 1 → h3.2.2 a = some e := fun a e he na => g3.at g2.1 (k2 a e he) na
    have v3 := g3.at g2.1 n2 (by omega)
    refine vgb_of (k3 _ _ b2 (by omega)) rfl (vab_of n3 rfl (show j < 40 by omega) (by omega) (va_up_self _ _ _) (vpu_of v3 (by omega) (show 3 < 10 by omega) rfl ?_))
    have g4 : gwn h3 (mv_set h3 h.1 (valE 0 0 z2 (nI j) z2 (-1) 0 0 0 0)) h.1 0 0 := gwn.set (ci := 13) g3.1 v3 (by decide)
    have n4 : (mv_set h3 h.1 (valE 0 0 z2 (nI j) z2 (-1) 0 0 0 0)).2.2 h.1 = some (valE 0 0 z2 (nI j) z2 (-1) 0 0 0 0) := hs_s
    show mv_rq l G mX1_init (d + 1 + 1) 38 [some (.ref x), some (.int (nI j + 1))] [] (mv_set h3 h.1 (valE 0 0 z2 (nI j) z2 (-1) 0 0 0 0)) _
    generalize mv_set h3 h.1 (valE 0 0 z2 (nI j) z2 (-1) 0 0 0 0) = h4 at g4 n4 ⊢
    have k4 : ∀ (a : Nat) (e : va_E), h.2.2 a = some e → a ≠ x + 1 → h4.2.2 a = some e := fun a e he na => g4.at g3.1 (k3 a e he na) (by have := mv_wf_lt hw he; omega)
    rw [nI_1]
    refine ih (j + 1) _ (by omega) ⟨⟨?_, k4 _ _ b2 (by omega)⟩, ⟨_, g4.at g3.1 n3 (by omega), fun i hi => ?_⟩, ⟨f', k4 _ _ a3 (by omega), a3'⟩, fun i hi => k4 _ _ (a4 i hi) (by omega), fun i hi => ?_, ?_⟩
    · have := g3.2.1
      have := g4.2.1
      omega
    · by_cases c : i = j
      · subst c
        rw [va_up_self, b1]
      · rw [va_up_ne _ _ c]
        exact a2 i (by omega)
    · by_cases c : i = j
      · subst c
        rw [← b1]
        exact n4
      · exact k4 _ _ (a5 i (by omega)) (by omega)
    · have u : 42 + j + 1 + 0 + 0 + 0 = 42 + (j + 1) := by omega
      have u' : 1680 + 10 * j + 10 + 0 + 0 + 0 = 1680 + 10 * (j + 1) := by omega
      rw [← u, ← u']
      exact (((a6.tr g1 (Or.inl rfl)).tr g2 (Or.inr (by omega))).tr g3 (Or.inr (by omega))).tr g4 (Or.inr (by omega))
theorem sp_i1 (hG : mv_ok G) (hz : mv_lt G RX1 22 "" z) (hz2 : mv_lt G RX11 18 "" z2) (hw : mv_wf h) (hx : h.2.2 x = some (.inr (3, [.null, .null, .null, .int 0]))) (hb : G.2.2.1 ≤ x) (hh : h.1 = x + 1) (hd : 1 ≤ d) : mv_rq l G mX1_init (d + 1) 0 (mv_in [.ref x] 2) [] h (fun o h1 => o = .inl none ∧ (∃ V I, hdc G h1 x z (nI 0) V I) ∧ gwn h h1 x 82 2080) := by
  refine v_X1_init hG ?_
  unfold w_X1_init
  have g1 : gwn h (mv_new h 40 (.inl (mv_t G 4, 40, .inr (.inr (.inr (.inr (fun _ => none))))))) x 1 40 := gwn.newa hw
  have e1 : (mv_new h 40 (.inl (mv_t G 4, 40, .inr (.inr (.inr (.inr (fun _ => none))))))).2.2 x = some (.inr (3, [.null, .null, .null, .int 0])) := by rw [nw_n (by omega)]; exact hx
  have n1 : (mv_new h 40 (.inl (mv_t G 4, 40, .inr (.inr (.inr (.inr (fun _ => none))))))).2.2 (x + 1) = some (.inl (mv_t G 4, 40, .inr (.inr (.inr (.inr (fun _ => none)))))) := by rw [← hh]; exact nw_s
  refine vnw_of ?_
  generalize mv_new h 40 (.inl (mv_t G 4, 40, .inr (.inr (.inr (.inr (fun _ => none)))))) = h1 at g1 e1 n1 ⊢
  refine vpu_of e1 hb (show 0 < 4 by omega) rfl ?_
  rw [hh]
  have g2 : gwn h1 (mv_set h1 x (.inr (3, [.ref (x + 1), .null, .null, .int 0]))) x 0 0 := gwn.set g1.1 e1 (by decide)
  have n2 : (mv_set h1 x (.inr (3, [.ref (x + 1), .null, .null, .int 0]))).2.2 x = some (.inr (3, [.ref (x + 1), .null, .null, .int 0])) := hs_s
  show vmu G (mv_set h1 x (.inr (3, [.ref (x + 1), .null, .null, .int 0]))) _
  generalize mv_set h1 x (.inr (3, [.ref (x + 1), .null, .null, .int 0])) = h2 at g2 n2 ⊢
  have u1 := g1.2.1
  have u2 := g2.2.1
  refine ⟨g2.1, ?_⟩
  have g3 : gwn h2 (mv_grid G h2) x 41 1640 := gwn.grid g2.1
  have c1 : (mv_grid G h2).2.2 (x + 2) = some (.inl (mv_t G 6, 40, .inr (.inr (.inr (.inr (fun j => some (x + 3 + j))))))) := by
    show (if x + 2 = h2.1 then _ else _) = _
    rw [if_pos (by omega)]
    have : (fun j => some (h2.1 + 1 + j)) = fun j => some (x + 3 + j) := by funext j; congr 1; omega
    rw [this]
  have c2 : ∀ i, i < 40 → (mv_grid G h2).2.2 (x + 3 + i) = some (.inl (mv_t G 1, 40, .inl (fun _ => 0))) := fun i hi => by
    show (if x + 3 + i = h2.1 then _ else if h2.1 < x + 3 + i ∧ x + 3 + i < h2.1 + 41 then _ else _) = _
    rw [if_neg (by omega), if_pos (by omega)]
  have e3 : h2.1 = x + 2 := by omega
  rw [e3]
  have k3 : ∀ (a : Nat) (e : va_E), h2.2.2 a = some e → (mv_grid G h2).2.2 a = some e := fun a e he => by
    have := mv_wf_lt g2.1 he
    show (if a = h2.1 then _ else if h2.1 < a ∧ a < h2.1 + 41 then _ else h2.2.2 a) = _
    rw [if_neg (by omega), if_neg (by omega)]
    exact he
  have n3 := k3 _ _ n2
  have m3 := k3 _ _ (g2.at g1.1 n1 (by omega))
  have u3 := g3.2.1
  generalize mv_grid G h2 = h3 at g3 c1 c2 n3 m3 u3 ⊢
  refine vpu_of n3 hb (show 1 < 4 by omega) rfl (vst_of hz (vpu_of hs_s hb (show 2 < 4 by omega) rfl (vpu_of hs_s hb (show 3 < 4 by omega) rfl ?_)))
  rw [mv_set_set, mv_set_set]
  show mv_rq l G mX1_init (d + 1) 38 [some (.ref x), some (.int 0)] [] (mv_set h3 x (.inr (3, [.ref (x + 1), .ref (x + 2), .ref z, .int 0]))) _
  have g4 : gwn h3 (mv_set h3 x (.inr (3, [.ref (x + 1), .ref (x + 2), .ref z, .int 0]))) x 0 0 := gwn.set g3.1 n3 (by decide)
  refine (i1L (h0 := h) (z := z) hG hz2 hb hh hd 40 0 _ rfl ⟨⟨?_, hs_s⟩, ⟨_, g4.at g3.1 m3 (by omega), fun i hi => absurd hi (Nat.not_lt_zero _)⟩, ⟨_, g4.at g3.1 c1 (by omega), fun i hi => rfl⟩, fun i hi => g4.at g3.1 (c2 i hi) (by omega), fun i hi => absurd hi (Nat.not_lt_zero _), ?_⟩).mono fun o h5 q => ?_
  · show h3.1 = _
    omega
  · exact ((g1.tr g2 (Or.inl rfl)).tr g3 (Or.inl rfl)).tr g4 (Or.inl rfl)
  · obtain ⟨q0, ⟨_, q1⟩, q2, q3, q4, q5, q6⟩ := q
    exact ⟨q0, ⟨fun i => (0, 0, z2, nI i, z2, -1, 0, 0, 0, 0), fun _ _ => 0, q1, q2, q3, q4, fun i hi => ⟨q5 i hi, rfl⟩, hb⟩, q6⟩
end KP
