/-! conditions: lists of conditions -/
section QAll
variable {l : Launch} {G : mv_G} {d : Nat} {r c s : Nat} {t : List Nat}
theorem loopAll {E : HE dCnd} {rd : Rd dCnd} {dep er dd p0 : Nat} {h0 : mv_H} (hG : mv_ok G) (hX : mv_okX l G) (hE : hFr G E) (hN : hNx 11 3 E) (hr : ∀ d h p, dd ≤ d → QS G h r c s t p → mv_rq l G mX5_readTest d 0 (mv_in [.ref r, .int (nI dep)] 3) [] h (QR G h r c s t p (nn E) 0 0 er (rd p))) (hd : dd ≤ d) (hd8 : 8 ≤ d) (he : 1 ≤ er) :
    ∀ (k i p : Nat) (h : mv_H) (ds : List dCnd) (fr la : Option Nat), i + k = 160 → QT G h0 h r c s t p → p0 ≤ p → h.2.2 h0.1 = some (cTst 1 fr la none none none 0 none) → hOL E h ds (h0.1 + 1) h.1 fr la → h.1 + 5 * p0 ≤ h0.1 + 5 * p + 1 →
    mv_rq l G mX5_readAll (d + 1) 20 [some (.ref r), some (.int (nI dep)), some (.ref h0.1), some (.int (nI i))] [] h (QR G h0 r c s t p0 (nn (hAll E)) 0 1 (er + 1) (rB (qMore t 38 rd k p) fun cs p3 => .inl (allR (ds ++ cs), p3))) := by
  intro k
  induction k with
  | zero =>
    intro i p h ds fr la hi T hp ha O hbd
    refine v_X5_readAll_20 hG ?_
    unfold w_X5_readAll_20
    have hlt : h0.1 < h.1 := by
      have := mv_wf_lt T.1.wf.1 ha
      omega
    refine vif_y (nI_le (a := 160) (by omega) (by omega)) ⟨h0.1, rfl, T, ⟨Nat.le_refl _, hlt, ds ++ [], fr, la, none, none, 0, none, ha, by rw [List.append_nil]; exact O, rfl⟩, by omega⟩
  | succ k ih =>
    intro i p h ds fr la hi T hp ha O hbd
    have hlt : h0.1 < h.1 := mv_wf_lt T.1.wf.1 ha
    have hcc := T.2.2.2
    refine v_X5_readAll_20 hG ?_
    unfold w_X5_readAll_20
    refine vif_n (fun z => absurd ((nI_leI (a := 160) (b := i) (by omega) (by omega)).mp z) (by omega)) (qPas (ch := 38) hG T.1 (by omega) (by omega) (by omega) (fun c1 h1 T1 e1 => vif_n (by decide) (qExp (ch := 38) hG hX T1.1 (by omega) (by omega) hd8 (fun c2 h2 T2 e2 => ?_) (fun c2 q h2 I e2 => ?_))) (fun c1 => vif_y rfl ?_))
    · have eq1 : qMore t 38 rd (k + 1) p = rB (rd (p + 1 + 1)) fun c p2 => rB (qMore t 38 rd k p2) fun cs p3 => .inl (c :: cs, p3) := by
        rw [qMore, if_pos c1]
        unfold exC
        rw [if_pos c2]
        rfl
      rw [eq1]
      obtain ⟨fs, hrd⟩ := T2.1.rd
      refine vob_of hrd ((hr d h2 (p + 1 + 1) hd T2.1).mono fun o h3 hq => ?_)
      have T02 := T.tr (T1.tr T2)
      have R02 := T1.2.1.tr T2.2.1
      cases hx : rd (p + 1 + 1) with
      | inr w =>
        rw [hx] at hq
        obtain ⟨⟨q, ho⟩, I, b⟩ := hq
        exact Or.inr ⟨_, ho, ⟨_, rfl⟩, I.tr T02.2.1, by omega⟩
      | inl x =>
        obtain ⟨e, p2⟩ := x
        rw [hx] at hq
        obtain ⟨b, ho, T3, P3, b3⟩ := hq
        refine Or.inl ⟨b, ho, ?_⟩
        have R03 := R02.tr T3.2.1
        have ha3 := R03.at T.1.wf.1 ha (by omega)
        have O3 := O.q hE R03 (by omega) (Nat.le_refl _)
        have P3' : E h3 h.1 h3.1 b (none, e) := by rw [show h.1 = h2.1 by omega]; exact P3
        refine vob_of ha3 ((sp_tAddL hG hE hN ha3 O3 P3' R03.2.1.1 (T02.tr T3) (Nat.le_refl _)).mono fun o2 h4 hq2 => ?_)
        obtain ⟨ho2, T4, ⟨e4, _⟩, fr', ha4, O4, _⟩ := hq2
        refine Or.inl ⟨ho2, ?_⟩
        rw [nI_1]
        have hp3 : p + 1 + 1 ≤ p2 + 20 := by have := T3.1.2.2.2.2.2; have := R03.2.1.1; omega
        refine (ih (i + 1) p2 h4 (ds ++ [e]) fr' (some b) (by omega) T4 (by have := T3.2.1.2.1.1; omega) ha4 (by rw [e4]; exact O4) (by omega)).mono fun o3 h5 hq5 => ?_
        show QR _ _ _ _ _ _ _ _ _ _ _ (rB (rB (qMore t 38 rd k p2) fun cs p3 => .inl (e :: cs, p3)) fun cs p3 => .inl (allR (ds ++ cs), p3)) _ _
        cases hy : qMore t 38 rd k p2 with
        | inr w => rw [hy] at hq5; exact hq5
        | inl y =>
          obtain ⟨cs, p3⟩ := y
          rw [hy] at hq5
          show QR _ _ _ _ _ _ _ _ _ _ _ (.inl (allR (ds ++ (e :: cs)), p3)) _ _
          rw [show ds ++ (e :: cs) = ds ++ [e] ++ cs by simp]
          exact hq5
    · rw [qMore, if_pos c1]
      have eq1 : exC t 38 (p + 1) = .inr (p + 1) := by unfold exC; rw [if_neg c2]
      rw [eq1]
      have := T1.1.2.2.2.2.2
      exact ⟨⟨_, rfl⟩, I.tr (T.tr T1).2.1, by omega⟩
    · rw [qMore, if_neg c1]
      refine ⟨h0.1, rfl, T, ⟨Nat.le_refl _, hlt, ds ++ [], fr, la, none, none, 0, none, ha, by rw [List.append_nil]; exact O, rfl⟩, by omega⟩
theorem sp_readAll {E : HE dCnd} {rd : Rd dCnd} {dep er dd p : Nat} {h : mv_H} (hG : mv_ok G) (hX : mv_okX l G) (hE : hFr G E) (hN : hNx 11 3 E) (hr : ∀ d h p, dd ≤ d → QS G h r c s t p → mv_rq l G mX5_readTest d 0 (mv_in [.ref r, .int (nI dep)] 3) [] h (QR G h r c s t p (nn E) 0 0 er (rd p))) (H : QS G h r c s t p) (hd : dd ≤ d) (hd8 : 8 ≤ d) (he : 1 ≤ er) : mv_rq l G mX5_readAll (d + 1) 0 (mv_in [.ref r, .int (nI dep)] 4) [] h (QR G h r c s t p (nn (hAll E)) 0 1 (er + 1) (rB (qSeq t 38 rd p) fun cs p1 => .inl (allR cs, p1))) := by
  obtain ⟨hw, hb⟩ := H.wf
  obtain ⟨d', hd'⟩ : ∃ d', d = d' + 1 := ⟨d - 1, by omega⟩
  refine v_X5_readAll hG ?_
  unfold w_X5_readAll
  refine vnw_of ?_
  have i1 : mv_rq l G mX9_init d 0 (mv_in [.ref h.1, .int 1] 2) [] (mv_new h 8 (.inr (11, [.int 0, .null, .null, .null, .null, .null, .int 0, .null]))) (fun o h1 => o = .inl none ∧ mv_set (mv_new h 8 (.inr (11, [.int 0, .null, .null, .null, .null, .null, .int 0, .null]))) h.1 (cTst 1 none none none none none 0 none) = h1) := by
    rw [hd']; exact sp_tInit hG hn_s hb
  refine vU_of i1 ?_
  rw [mv_set_new]
  have T0 : QT G h (mv_new h 8 (cTst 1 none none none none none 0 none)) r c s t p := H.st.new (by omega) (fun fs w => by simp at w)
  have a0 : (mv_new h 8 (cTst 1 none none none none none 0 none)).2.2 h.1 = some (cTst 1 none none none none none 0 none) := hn_s
  have n0 : (mv_new h 8 (cTst 1 none none none none none 0 none)).1 = h.1 + 1 := rfl
  generalize mv_new h 8 (cTst 1 none none none none none 0 none) = h0 at T0 a0 n0
  have hcc := T0.2.2.2
  obtain ⟨fs, hrd⟩ := T0.1.rd
  refine vob_of hrd ((hr d h0 p hd T0.1).mono fun o h3 hq => ?_)
  have eqs : qSeq t 38 rd p = rB (rd p) fun c p1 => rB (qMore t 38 rd 160 p1) fun cs p2 => .inl (c :: cs, p2) := rfl
  rw [eqs]
  cases hx : rd p with
  | inr w =>
    rw [hx] at hq
    obtain ⟨⟨q, ho⟩, I, b⟩ := hq
    exact Or.inr ⟨_, ho, ⟨_, rfl⟩, I.tr T0.2.1, by omega⟩
  | inl x =>
    obtain ⟨e, p2⟩ := x
    rw [hx] at hq
    obtain ⟨b, ho, T3, P3, b3⟩ := hq
    refine Or.inl ⟨b, ho, ?_⟩
    have ha3 := T3.2.1.at T0.1.wf.1 a0 (by omega)
    have O3 : hOL E h3 [] (h.1 + 1) h0.1 none none := Or.inl ⟨rfl, rfl, rfl, by omega⟩
    refine vob_of ha3 ((sp_tAddL hG hE hN ha3 O3 P3 T3.2.1.2.1.1 (T0.tr T3) (Nat.le_refl _)).mono fun o2 h4 hq2 => ?_)
    obtain ⟨ho2, T4, ⟨e4, _⟩, fr', ha4, O4, _⟩ := hq2
    refine Or.inl ⟨ho2, ?_⟩
    have := T3.2.1.2.1.1
    refine (loopAll (p0 := p) hG hX hE hN hr hd hd8 he 160 0 p2 h4 [e] fr' (some b) rfl T4 (by omega) ha4 (by rw [e4]; exact O4) (by omega)).mono fun o3 h5 hq5 => ?_
    show QR _ _ _ _ _ _ _ _ _ _ _ (rB (rB (qMore t 38 rd 160 p2) fun cs p3 => .inl (e :: cs, p3)) fun cs p3 => .inl (allR cs, p3)) _ _
    cases hy : qMore t 38 rd 160 p2 with
    | inr w => rw [hy] at hq5; exact hq5
    | inl y => rw [hy] at hq5; exact hq5
end QAll

section QAny
variable {l : Launch} {G : mv_G} {d : Nat} {r c s : Nat} {t : List Nat}
theorem loopAny {E E0 : HE dCnd} {rd : Rd dCnd} {dep er dd p0 : Nat} {h0 : mv_H} (hG : mv_ok G) (hX : mv_okX l G) (hEE : E = hAll E0) (hE : hFr G E) (hN : hNx 11 3 E) (hr : ∀ d h p, dd ≤ d → QS G h r c s t p → mv_rq l G mX5_readAll d 0 (mv_in [.ref r, .int (nI dep)] 4) [] h (QR G h r c s t p (nn E) 0 1 er (rd p))) (hd : dd ≤ d) (hd8 : 8 ≤ d) (he : 1 ≤ er) :
    ∀ (k i p : Nat) (h : mv_H) (ds : List dCnd) (fr la : Option Nat), i + k = 160 → QT G h0 h r c s t p → p0 ≤ p → h.2.2 h0.1 = some (cTst 0 fr la none none none 0 none) → hOL E h ds (h0.1 + 1) h.1 fr la → h.1 + 5 * p0 ≤ h0.1 + 5 * p + 2 →
    mv_rq l G mX5_readAny (d + 1) 20 [some (.ref r), some (.int (nI dep)), some (.ref h0.1), some (.int (nI i))] [] h (QR G h0 r c s t p0 (nn (hAny E0)) 0 2 (er + 1) (rB (qMore t 124 rd k p) fun cs p3 => .inl (anyR (ds ++ cs), p3))) := by
  intro k
  induction k with
  | zero =>
    intro i p h ds fr la hi T hp ha O hbd
    refine v_X5_readAny_20 hG ?_
    unfold w_X5_readAny_20
    have hlt : h0.1 < h.1 := by
      have := mv_wf_lt T.1.wf.1 ha
      omega
    refine vif_y (nI_le (a := 160) (by omega) (by omega)) ⟨h0.1, rfl, T, ⟨Nat.le_refl _, hlt, ds ++ [], fr, la, none, none, 0, none, ha, by rw [List.append_nil, ← hEE]; exact O, rfl⟩, by omega⟩
  | succ k ih =>
    intro i p h ds fr la hi T hp ha O hbd
    have hlt : h0.1 < h.1 := mv_wf_lt T.1.wf.1 ha
    have hcc := T.2.2.2
    refine v_X5_readAny_20 hG ?_
    unfold w_X5_readAny_20
    refine vif_n (fun z => absurd ((nI_leI (a := 160) (b := i) (by omega) (by omega)).mp z) (by omega)) (qPas (ch := 124) hG T.1 (by omega) (by omega) (by omega) (fun c1 h1 T1 e1 => vif_n (by decide) (qExp (ch := 124) hG hX T1.1 (by omega) (by omega) hd8 (fun c2 h2 T2 e2 => ?_) (fun c2 q h2 I e2 => ?_))) (fun c1 => vif_y rfl ?_))
    · have eq1 : qMore t 124 rd (k + 1) p = rB (rd (p + 1 + 1)) fun c p2 => rB (qMore t 124 rd k p2) fun cs p3 => .inl (c :: cs, p3) := by
        rw [qMore, if_pos c1]
        unfold exC
        rw [if_pos c2]
        rfl
      rw [eq1]
      obtain ⟨fs, hrd⟩ := T2.1.rd
      refine vob_of hrd ((hr d h2 (p + 1 + 1) hd T2.1).mono fun o h3 hq => ?_)
      have T02 := T.tr (T1.tr T2)
      have R02 := T1.2.1.tr T2.2.1
      cases hx : rd (p + 1 + 1) with
      | inr w =>
        rw [hx] at hq
        obtain ⟨⟨q, ho⟩, I, b⟩ := hq
        exact Or.inr ⟨_, ho, ⟨_, rfl⟩, I.tr T02.2.1, by omega⟩
      | inl x =>
        obtain ⟨e, p2⟩ := x
        rw [hx] at hq
        obtain ⟨b, ho, T3, P3, b3⟩ := hq
        refine Or.inl ⟨b, ho, ?_⟩
        have R03 := R02.tr T3.2.1
        have ha3 := R03.at T.1.wf.1 ha (by omega)
        have O3 := O.q hE R03 (by omega) (Nat.le_refl _)
        have P3' : E h3 h.1 h3.1 b (none, e) := by rw [show h.1 = h2.1 by omega]; exact P3
        refine vob_of ha3 ((sp_tAddL hG hE hN ha3 O3 P3' R03.2.1.1 (T02.tr T3) (Nat.le_refl _)).mono fun o2 h4 hq2 => ?_)
        obtain ⟨ho2, T4, ⟨e4, _⟩, fr', ha4, O4, _⟩ := hq2
        refine Or.inl ⟨ho2, ?_⟩
        rw [nI_1]
        have hp3 : p + 1 + 1 ≤ p2 + 20 := by have := T3.1.2.2.2.2.2; have := R03.2.1.1; omega
        refine (ih (i + 1) p2 h4 (ds ++ [e]) fr' (some b) (by omega) T4 (by have := T3.2.1.2.1.1; omega) ha4 (by rw [e4]; exact O4) (by omega)).mono fun o3 h5 hq5 => ?_
        show QR _ _ _ _ _ _ _ _ _ _ _ (rB (rB (qMore t 124 rd k p2) fun cs p3 => .inl (e :: cs, p3)) fun cs p3 => .inl (anyR (ds ++ cs), p3)) _ _
        cases hy : qMore t 124 rd k p2 with
        | inr w => rw [hy] at hq5; exact hq5
        | inl y =>
          obtain ⟨cs, p3⟩ := y
          rw [hy] at hq5
          show QR _ _ _ _ _ _ _ _ _ _ _ (.inl (anyR (ds ++ (e :: cs)), p3)) _ _
          rw [show ds ++ (e :: cs) = ds ++ [e] ++ cs by simp]
          exact hq5
    · rw [qMore, if_pos c1]
      have eq1 : exC t 124 (p + 1) = .inr (p + 1) := by unfold exC; rw [if_neg c2]
      rw [eq1]
      have := T1.1.2.2.2.2.2
      exact ⟨⟨_, rfl⟩, I.tr (T.tr T1).2.1, by omega⟩
    · rw [qMore, if_neg c1]
      refine ⟨h0.1, rfl, T, ⟨Nat.le_refl _, hlt, ds ++ [], fr, la, none, none, 0, none, ha, by rw [List.append_nil, ← hEE]; exact O, rfl⟩, by omega⟩
theorem sp_readAny {E E0 : HE dCnd} {rd : Rd dCnd} {dep er dd p : Nat} {h : mv_H} (hG : mv_ok G) (hX : mv_okX l G) (hEE : E = hAll E0) (hE : hFr G E) (hN : hNx 11 3 E) (hr : ∀ d h p, dd ≤ d → QS G h r c s t p → mv_rq l G mX5_readAll d 0 (mv_in [.ref r, .int (nI dep)] 4) [] h (QR G h r c s t p (nn E) 0 1 er (rd p))) (H : QS G h r c s t p) (hd : dd ≤ d) (hd8 : 8 ≤ d) (he : 1 ≤ er) : mv_rq l G mX5_readAny (d + 1) 0 (mv_in [.ref r, .int (nI dep)] 4) [] h (QR G h r c s t p (nn (hAny E0)) 0 2 (er + 1) (rB (qSeq t 124 rd p) fun cs p1 => .inl (anyR cs, p1))) := by
  obtain ⟨hw, hb⟩ := H.wf
  obtain ⟨d', hd'⟩ : ∃ d', d = d' + 1 := ⟨d - 1, by omega⟩
  refine v_X5_readAny hG ?_
  unfold w_X5_readAny
  refine vnw_of ?_
  have i1 : mv_rq l G mX9_init d 0 (mv_in [.ref h.1, .int 0] 2) [] (mv_new h 8 (.inr (11, [.int 0, .null, .null, .null, .null, .null, .int 0, .null]))) (fun o h1 => o = .inl none ∧ mv_set (mv_new h 8 (.inr (11, [.int 0, .null, .null, .null, .null, .null, .int 0, .null]))) h.1 (cTst 0 none none none none none 0 none) = h1) := by
    rw [hd']; exact sp_tInit hG hn_s hb
  refine vU_of i1 ?_
  rw [mv_set_new]
  have T0 : QT G h (mv_new h 8 (cTst 0 none none none none none 0 none)) r c s t p := H.st.new (by omega) (fun fs w => by simp at w)
  have a0 : (mv_new h 8 (cTst 0 none none none none none 0 none)).2.2 h.1 = some (cTst 0 none none none none none 0 none) := hn_s
  have n0 : (mv_new h 8 (cTst 0 none none none none none 0 none)).1 = h.1 + 1 := rfl
  generalize mv_new h 8 (cTst 0 none none none none none 0 none) = h0 at T0 a0 n0
  have hcc := T0.2.2.2
  obtain ⟨fs, hrd⟩ := T0.1.rd
  refine vob_of hrd ((hr d h0 p hd T0.1).mono fun o h3 hq => ?_)
  have eqs : qSeq t 124 rd p = rB (rd p) fun c p1 => rB (qMore t 124 rd 160 p1) fun cs p2 => .inl (c :: cs, p2) := rfl
  rw [eqs]
  cases hx : rd p with
  | inr w =>
    rw [hx] at hq
    obtain ⟨⟨q, ho⟩, I, b⟩ := hq
    exact Or.inr ⟨_, ho, ⟨_, rfl⟩, I.tr T0.2.1, by omega⟩
  | inl x =>
    obtain ⟨e, p2⟩ := x
    rw [hx] at hq
    obtain ⟨b, ho, T3, P3, b3⟩ := hq
    refine Or.inl ⟨b, ho, ?_⟩
    have ha3 := T3.2.1.at T0.1.wf.1 a0 (by omega)
    have O3 : hOL E h3 [] (h.1 + 1) h0.1 none none := Or.inl ⟨rfl, rfl, rfl, by omega⟩
    refine vob_of ha3 ((sp_tAddL hG hE hN ha3 O3 P3 T3.2.1.2.1.1 (T0.tr T3) (Nat.le_refl _)).mono fun o2 h4 hq2 => ?_)
    obtain ⟨ho2, T4, ⟨e4, _⟩, fr', ha4, O4, _⟩ := hq2
    refine Or.inl ⟨ho2, ?_⟩
    have := T3.2.1.2.1.1
    refine (loopAny (p0 := p) hG hX hEE hE hN hr hd hd8 he 160 0 p2 h4 [e] fr' (some b) rfl T4 (by omega) ha4 (by rw [e4]; exact O4) (by omega)).mono fun o3 h5 hq5 => ?_
    show QR _ _ _ _ _ _ _ _ _ _ _ (rB (rB (qMore t 124 rd 160 p2) fun cs p3 => .inl (e :: cs, p3)) fun cs p3 => .inl (anyR cs, p3)) _ _
    cases hy : qMore t 124 rd 160 p2 with
    | inr w => rw [hy] at hq5; exact hq5
    | inl y => rw [hy] at hq5; exact hq5
end QAny
