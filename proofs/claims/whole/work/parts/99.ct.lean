section QG
variable {l : Launch} {G : mv_G} {d : Nat} {r c s : Nat} {t : List Nat} {lo : Option Lv} {ho : Option HV} {dep er dd : Nat}
/-- what comes of reading selectors into the segment at a -/
def QL (G : mv_G) (h0 : mv_H) (r c s : Nat) (t : List Nat) (p0 : Nat) (ho : Option HV) (bw : Int32) (er : Nat) (ds : List (dSel × Bool)) (x : (List (dSel × Bool) × Nat) ⊕ Nat) (o : mv_O) (h1 : mv_H) : Prop := match x with
  | .inl (ss, p') => o = .inl none ∧ QT G h0 h1 r c s t p' ∧ (∃ fr la, h1.2.2 h0.1 = some (cSeg bw fr la none) ∧ hOL (hSel G ho) h1 (ds ++ ss) (h0.1 + 1) h1.1 fr la) ∧ h1.1 + 5 * p0 ≤ h0.1 + 5 * p'
  | .inr w => (∃ q, o = .inr (xIA, q)) ∧ IQ G h0 h1 c s w ∧ h1.1 + 5 * p0 ≤ h0.1 + 5 * t.length + er
theorem loopSel {h0 : mv_H} {p0 : Nat} {bw : Int32} (hG : mv_ok G) (hX : mv_okX l G) (ht : tOk t) (hL : hLo G ho) (hO : LOp l G r c s t lo ho dep er dd) (he : 1 ≤ er) (hdp : dep ≤ 4) (hdd : 8 ≤ dd) (hd : dd + 4 ≤ d) (hd8 : 13 ≤ d) :
    ∀ (k p : Nat) (h : mv_H) (ds : List (dSel × Bool)) (fr la : Option Nat), k < 4 → QT G h0 h r c s t p → h.2.2 h0.1 = some (cSeg bw fr la none) → hOL (hSel G ho) h ds (h0.1 + 1) h.1 fr la → h.1 + 5 * p0 ≤ h0.1 + 5 * p →
    mv_rq l G mX5_readSelectors (d + 1) 11 [some (.ref r), some (.ref h0.1), some (.int (nI dep)), some (.int (nI (3 - k)))] [] h (QL G h0 r c s t p0 ho bw (er + 2) ds (qSels t lo (k + 1) p)) := by
  obtain ⟨d, rfl⟩ : ∃ d', d = d' + 1 := ⟨d - 1, by omega⟩
  -- the end
  have fin : ∀ (h : mv_H) (p : Nat) (ds0 : List (dSel × Bool)) (e : dSel × Bool) (fr la : Option Nat), QT G h0 h r c s t p → h.2.2 h0.1 = some (cSeg bw fr la none) → hOL (hSel G ho) h (ds0 ++ [e]) (h0.1 + 1) h.1 fr la → h.1 + 5 * p0 ≤ h0.1 + 5 * p →
      mv_rq l G mX5_readSelectors (d + 2) 40 [some (.ref r), none, none, none] [] h (QL G h0 r c s t p0 ho bw (er + 2) ds0 (rB (exC t 93 p) fun _ p2 => .inl ([e], p2))) := by
    intro h p ds0 e fr la T ha O hbd
    have hcc := T.2.2.2
    have hlt : h0.1 < h.1 := mv_wf_lt T.1.wf.1 ha
    refine v_X5_readSelectors_40 hG ?_
    unfold w_X5_readSelectors_40
    refine qExp (ch := 93) hG hX T.1 (by omega) (by omega) (by omega) (fun c1 h1 T1 e1 => ?_) (fun c1 q h1 I e1 => ?_)
    · have eq1 : exC t 93 p = .inl ((), p + 1) := by unfold exC; rw [if_pos c1]
      rw [eq1]
      refine ⟨rfl, T.tr T1, ⟨fr, la, T1.2.1.at T.1.wf.1 ha (by omega), ?_⟩, by omega⟩
      rw [e1]
      exact O.q (hSel_fr hL) T1.2.1 (by omega) (Nat.le_refl _)
    · have eq1 : exC t 93 p = .inr p := by unfold exC; rw [if_neg c1]
      rw [eq1]
      have := T.1.2.2.2.2.2
      exact ⟨⟨_, rfl⟩, I.tr T.2.1, by omega⟩
  intro k
  induction k with
  | zero =>
    intro p h ds fr la hk T ha O hbd
    have hcc := T.2.2.2
    have hlt : h0.1 < h.1 := mv_wf_lt T.1.wf.1 ha
    refine v_X5_readSelectors_11 hG ?_
    unfold w_X5_readSelectors_11
    obtain ⟨fs, hrd⟩ := T.1.rd
    refine vob_of hrd ((sp_readSelector (lo := lo) hG hX ht hL hO T.1 he hdp hdd (by omega) (by omega)).mono fun o h1 hq => ?_)
    have eqq : qSels t lo (0 + 1) p = rB (qSel t lo p) fun s p1 => if 0 ≠ 0 ∧ lk t p1 = 44 then rB (qSels t lo 0 (p1 + 1)) fun ss p2 => .inl (s :: ss, p2) else rB (exC t 93 p1) fun _ p2 => .inl ([s], p2) := rfl
    rw [eqq]
    cases hx : qSel t lo p with
    | inr w =>
      rw [hx] at hq
      obtain ⟨⟨q, ho⟩, I, b⟩ := hq
      exact Or.inr ⟨_, ho, ⟨_, rfl⟩, I.tr T.2.1, by omega⟩
    | inl x =>
      obtain ⟨e, p1⟩ := x
      rw [hx] at hq
      obtain ⟨b, ho1, T1, P1, b1⟩ := hq
      refine Or.inl ⟨b, ho1, ?_⟩
      have ha1 := T1.2.1.at T.1.wf.1 ha (by omega)
      refine vob_of ha1 ((sp_gAddL hG (hSel_fr hL) (hSel_nx hL) ha1 (O.q (hSel_fr hL) T1.2.1 (by omega) (Nat.le_refl _)) P1 T1.2.1.2.1.1 (T.tr T1) (Nat.le_refl _)).mono fun o2 h2 hq2 => ?_)
      obtain ⟨ho2, T2, ⟨e2, _⟩, fr', ha2, O2⟩ := hq2
      refine Or.inl ⟨ho2, vif_y (by decide) ?_⟩
      simp only [rB]
      rw [if_neg (by omega)]
      exact fin h2 p1 ds e fr' (some b) T2 ha2 (by rw [e2]; exact O2) (by omega)
  | succ k ih =>
    intro p h ds fr la hk T ha O hbd
    have hcc := T.2.2.2
    have hlt : h0.1 < h.1 := mv_wf_lt T.1.wf.1 ha
    refine v_X5_readSelectors_11 hG ?_
    unfold w_X5_readSelectors_11
    obtain ⟨fs, hrd⟩ := T.1.rd
    refine vob_of hrd ((sp_readSelector (lo := lo) hG hX ht hL hO T.1 he hdp hdd (by omega) (by omega)).mono fun o h1 hq => ?_)
    have eqq : qSels t lo (k + 1 + 1) p = rB (qSel t lo p) fun s p1 => if k + 1 ≠ 0 ∧ lk t p1 = 44 then rB (qSels t lo (k + 1) (p1 + 1)) fun ss p2 => .inl (s :: ss, p2) else rB (exC t 93 p1) fun _ p2 => .inl ([s], p2) := rfl
    rw [eqq]
    cases hx : qSel t lo p with
    | inr w =>
      rw [hx] at hq
      obtain ⟨⟨q, ho⟩, I, b⟩ := hq
      exact Or.inr ⟨_, ho, ⟨_, rfl⟩, I.tr T.2.1, by omega⟩
    | inl x =>
      obtain ⟨e, p1⟩ := x
      rw [hx] at hq
      obtain ⟨b, ho1, T1, P1, b1⟩ := hq
      refine Or.inl ⟨b, ho1, ?_⟩
      have ha1 := T1.2.1.at T.1.wf.1 ha (by omega)
      refine vob_of ha1 ((sp_gAddL hG (hSel_fr hL) (hSel_nx hL) ha1 (O.q (hSel_fr hL) T1.2.1 (by omega) (Nat.le_refl _)) P1 T1.2.1.2.1.1 (T.tr T1) (Nat.le_refl _)).mono fun o2 h2 hq2 => ?_)
      obtain ⟨ho2, T2, ⟨e2, _⟩, fr', ha2, O2⟩ := hq2
      have hcc2 := T2.2.2.2
      refine Or.inl ⟨ho2, vif_n (fun z => ?_) ?_⟩
      · rw [nI_1] at z
        exact absurd ((nI_leI (a := 4) (by omega) (by omega)).mp z) (by omega)
      · show vgb _ _ _ _ _
        refine qPas (ch := 44) hG T2.1 (by omega) (by omega) (by omega) (fun c1 h3 T3 e3 => vif_n (by decide) ?_) (fun c1 => vif_y rfl ?_)
        · simp only [rB]
          rw [if_pos ⟨by omega, c1⟩, nI_1, show 3 - (k + 1) + 1 = 3 - k by omega]
          refine (ih (p1 + 1) h3 (ds ++ [e]) fr' (some b) (by omega) (T2.tr T3) (T3.2.1.at T2.1.wf.1 ha2 (by omega)) ?_ (by omega)).mono fun o4 h4 hq4 => ?_
          · rw [e3, e2]
            exact O2.q (hSel_fr hL) T3.2.1 (by omega) (by omega)
          · cases hy : qSels t lo (k + 1) (p1 + 1) with
            | inr w => rw [hy] at hq4; exact hq4
            | inl y =>
              obtain ⟨ss, p2⟩ := y
              rw [hy] at hq4
              obtain ⟨z1, z2, ⟨f1, l1, z3, z4⟩, z5⟩ := hq4
              refine ⟨z1, z2, ⟨f1, l1, z3, ?_⟩, z5⟩
              rw [show ds ++ (e :: ss) = ds ++ [e] ++ ss by simp]
              exact z4
        · simp only [rB]
          rw [if_neg (fun z => c1 z.2)]
          exact fin h2 p1 ds e fr' (some b) T2 ha2 (by rw [e2]; exact O2) (by omega)
theorem sp_readSelectors {h0 h : mv_H} {p0 p : Nat} {bw : Int32} (hG : mv_ok G) (hX : mv_okX l G) (ht : tOk t) (hL : hLo G ho) (hO : LOp l G r c s t lo ho dep er dd) (he : 1 ≤ er) (hdp : dep ≤ 4) (hdd : 8 ≤ dd) (hd : dd + 4 ≤ d) (hd8 : 13 ≤ d) (T : QT G h0 h r c s t p) (ha : h.2.2 h0.1 = some (cSeg bw none none none)) (hp : lk t p = 91) (hbd : h.1 + 5 * p0 ≤ h0.1 + 5 * (p + 1)) :
    mv_rq l G mX5_readSelectors (d + 1) 0 (mv_in [.ref r, .ref h0.1, .int (nI dep)] 4) [] h (QL G h0 r c s t p0 ho bw (er + 2) [] (qSels t lo 4 (p + 1))) := by
  have hcc := T.2.2.2
  have hlt : h0.1 < h.1 := mv_wf_lt T.1.wf.1 ha
  refine v_X5_readSelectors hG ?_
  unfold w_X5_readSelectors
  refine qExp (ch := 91) hG hX T.1 (by omega) (by omega) (by omega) (fun c1 h1 T1 e1 => ?_) (fun c1 q h1 I e1 => absurd hp c1)
  exact loopSel hG hX ht hL hO he hdp hdd hd hd8 3 (p + 1) h1 [] none none (by omega) (T.tr T1) (T1.2.1.at T.1.wf.1 ha (by omega)) (Or.inl ⟨rfl, rfl, rfl, by omega⟩) (by omega)
/-- a segment -/
theorem sp_readSegment {h : mv_H} {p : Nat} (hG : mv_ok G) (hX : mv_okX l G) (ht : tOk t) (hL : hLo G ho) (hO : LOp l G r c s t lo ho dep er dd) (he : 2 ≤ er) (hdp : dep ≤ 4) (hdd : 8 ≤ dd) (hd : dd + 5 ≤ d) (hd8 : 14 ≤ d) (H : QS G h r c s t p) (hp : lk t p = 46 ∨ lk t p = 91) :
    mv_rq l G mX5_readSegment (d + 1) 0 (mv_in [.ref r, .int (nI dep)] 5) [] h (QR G h r c s t p (nn (hSeg G ho)) 0 0 (er + 2) (qSeg t lo p)) := by
  obtain ⟨d, rfl⟩ : ∃ d', d = d' + 1 := ⟨d - 1, by omega⟩
  obtain ⟨hw, hb⟩ := H.wf
  have hcc := H.st.2.2.2
  have hEq : ∀ (dot bw : Bool) (p2 : Nat), (lk t p == 46) = dot → (lk t p == 46 && lk t (p + 1) == 46) = bw → (if lk t p = 46 then (if lk t (p + 1) = 46 then p + 2 else p + 1) else p) = p2 → qSeg t lo p = (if lk t p2 = 91 ∧ (dot = false ∨ bw = true) then rB (qSels t lo 4 (p2 + 1)) fun ss p3 => .inl (((bw, ss.map (·.1)), !bw && ss.length == 1 && ss.all (·.2)), p3)
    else if lk t p2 = 42 then .inl (((bw, [sAll]), false), p2 + 1)
    else match rdM t p2 with
      | .inr w => .inr w
      | .inl p3 => .inl (((bw, [sNamed (sl t p2 (p3 - p2))]), !bw), p3)) := fun dot bw p2 h1 h2 h3 => by
    subst h1 h2 h3
    rfl
  -- behind the points
  have rest : ∀ (h1 : mv_H) (dot bw : Bool) (p2 : Nat), (lk t p == 46) = dot → (lk t p == 46 && lk t (p + 1) == 46) = bw → (if lk t p = 46 then (if lk t (p + 1) = 46 then p + 2 else p + 1) else p) = p2 → QT G h h1 r c s t p2 → h1.2.2 h.1 = some (.inr (9, [.int 0, .null, .null, .null])) → h1.1 = h.1 + 1 → (dot = true → p < p2) → (p ≤ p2) →
      mv_rq l G mX5_readSegment (d + 2) 35 [some (.ref r), some (.int (nI dep)), some (.int (b2i dot)), none, none] [.int (b2i bw), .ref h.1, .ref h.1] h1 (QR G h r c s t p (nn (hSeg G ho)) 0 0 (er + 2) (qSeg t lo p)) := by
    intro h1 dot bw p2 e1 e2 e3 T1 a1 n1 hdt hpp
    rw [hEq dot bw p2 e1 e2 e3]
    refine v_X5_readSegment_35 hG ?_
    unfold w_X5_readSegment_35
    refine vU_of (sp_gInit bw hG a1 hb) ?_
    have T2 : QT G h (mv_set h1 h.1 (cSeg (b2i bw) none none none)) r c s t p2 := T1.set (Nat.le_refl _) a1 (by decide) (fun fs w => by simp at w)
    have a2 : (mv_set h1 h.1 (cSeg (b2i bw) none none none)).2.2 h.1 = some (cSeg (b2i bw) none none none) := hs_s
    have n2 : (mv_set h1 h.1 (cSeg (b2i bw) none none none)).1 = h.1 + 1 := n1
    generalize mv_set h1 h.1 (cSeg (b2i bw) none none none) = h2 at T2 a2 n2
    obtain ⟨fs2, hrd2⟩ := T2.1.rd
    refine qLok hG T2.1 (by omega) ?_
    rw [show (nI (lk t p2) = 91) = (lk t p2 = 91) from nIlk T2.1 (k := 91) (by omega)]
    -- in brackets
    have brk : lk t p2 = 91 → (dot = false ∨ bw = true) → mv_rq l G mX5_readSegment (d + 2) 62 [some (.ref r), some (.int (nI dep)), none, some (.ref h.1), none] [] h2 (QR G h r c s t p (nn (hSeg G ho)) 0 0 (er + 2) (rB (qSels t lo 4 (p2 + 1)) fun ss p3 => .inl (((bw, ss.map (·.1)), !bw && ss.length == 1 && ss.all (·.2)), p3))) := fun c1 c2 => by
      refine v_X5_readSegment_62 hG ?_
      unfold w_X5_readSegment_62
      refine vob_of hrd2 ((sp_readSelectors (p0 := p) (lo := lo) hG hX ht hL hO (by omega) hdp hdd (by omega) (by omega) T2 a2 c1 (by omega)).mono fun o h3 hq => ?_)
      cases hx : qSels t lo 4 (p2 + 1) with
      | inr w =>
        rw [hx] at hq
        obtain ⟨⟨q, ho⟩, I, b⟩ := hq
        exact Or.inr ⟨_, ho, ⟨_, rfl⟩, I, b⟩
      | inl x =>
        obtain ⟨ss, p3⟩ := x
        rw [hx] at hq
        obtain ⟨ho, T3, ⟨fr, la, a3, O3⟩, b3⟩ := hq
        refine Or.inl ⟨ho, h.1, rfl, T3, ⟨Nat.le_refl _, mv_wf_lt T3.1.wf.1 a3, fr, la, ss, a3, O3, rfl, rfl⟩, b3⟩
    -- all, or a name
    have nam : dot = true → mv_rq l G mX5_readSegment (d + 2) 71 [some (.ref r), none, none, some (.ref h.1), none] [] h2 (QR G h r c s t p (nn (hSeg G ho)) 0 0 (er + 2) (if lk t p2 = 42 then .inl (((bw, [sAll]), false), p2 + 1) else match rdM t p2 with
      | .inr w => .inr w
      | .inl p3 => .inl (((bw, [sNamed (sl t p2 (p3 - p2))]), !bw), p3))) := fun hdot => by
      have hp2 := hdt hdot
      refine v_X5_readSegment_71 hG ?_
      unfold w_X5_readSegment_71
      refine qPas (ch := 42) hG T2.1 (by omega) (by omega) (by omega) (fun c1 h3 T3 n3 => vif_n (by decide) ?_) (fun c1 => vif_y rfl ?_)
      · rw [if_pos c1]
        obtain ⟨z, z1, _⟩ := T3.1.2.2.2.1.2.2.1
        refine vnw_of (vU_of (sp_sInit hG hn_s T3.1.wf.2 z1) ?_)
        rw [mv_set_new]
        have T4 : QT G h3 (mv_new h3 9 (cSel 1 z 0 0 1 0 0 none none)) r c s t (p2 + 1) := T3.1.st.new (by omega) (fun fs w => by simp at w)
        have a4 : (mv_new h3 9 (cSel 1 z 0 0 1 0 0 none none)).2.2 h3.1 = some (cSel 1 z 0 0 1 0 0 none none) := hn_s
        have n4 : (mv_new h3 9 (cSel 1 z 0 0 1 0 0 none none)).1 = h3.1 + 1 := rfl
        generalize mv_new h3 9 (cSel 1 z 0 0 1 0 0 none none) = h4 at T4 a4 n4
        have a5 := (T3.2.1.tr T4.2.1).at T2.1.wf.1 a2 (by omega)
        refine vob_of a5 ((sp_gAddL (ds := []) (e := (sAll, false)) hG (hSel_fr hL) (hSel_nx hL) a5 (Or.inl ⟨rfl, rfl, rfl, Nat.le_refl _⟩) (z := h4.1) ⟨by omega, by omega, 1, z, 0, 0, 1, 0, 0, none, a4, Or.inr (Or.inl ⟨rfl, rfl⟩)⟩ (by omega) (T2.tr (T3.tr T4)) (Nat.le_refl _)).mono fun o5 h5 hq => ?_)
        obtain ⟨ho5, T5, ⟨e5, _⟩, fr', a6, O6⟩ := hq
        refine Or.inl ⟨ho5, h.1, rfl, T5, ⟨Nat.le_refl _, mv_wf_lt T5.1.wf.1 a6, fr', some h3.1, [(sAll, false)], a6, by rw [e5]; exact O6, rfl, ?_⟩, by omega⟩
        show false = (!bw && [(sAll, false)].length == 1 && [(sAll, false)].all (·.2))
        simp
      · rw [if_neg c1]
        obtain ⟨z, z1, _⟩ := T2.1.2.2.2.1.2.2.1
        refine vnw_of (vU_of (sp_sInit hG hn_s T2.1.wf.2 z1) ?_)
        rw [mv_set_new]
        have T4 : QT G h2 (mv_new h2 9 (cSel 0 z 0 0 1 0 0 none none)) r c s t p2 := T2.1.st.new (by omega) (fun fs w => by simp at w)
        have a4 : (mv_new h2 9 (cSel 0 z 0 0 1 0 0 none none)).2.2 h2.1 = some (cSel 0 z 0 0 1 0 0 none none) := hn_s
        have n4 : (mv_new h2 9 (cSel 0 z 0 0 1 0 0 none none)).1 = h2.1 + 1 := rfl
        generalize mv_new h2 9 (cSel 0 z 0 0 1 0 0 none none) = h4 at T4 a4 n4
        obtain ⟨⟨cv, g1⟩, g2, g3, g4, g5, g6⟩ := id T4.1
        refine vgb_of g1 rfl (vob_of g2 ((sp_readName hG hX g2 g3 g4.1 ht.1 (by omega) g6 g5.2 (by omega)).mono fun o5 h5 hq => ?_))
        rcases hq with ⟨p3, e, hp3, hbp, a, ho5, hs, hm⟩ | ⟨w, p'', e, ho5, hh⟩
        · rw [e]
          refine Or.inl ⟨a, ho5, ?_⟩
          have T5 : QT G h4 h5 r c s t p3 := (T4.1.st.cur hp3).made hm
          have a5 := T5.2.1.at T4.1.wf.1 a4 (by omega)
          have n5 : h5.1 ≤ h4.1 + 2 := hm.2.1
          have n5' := T5.2.1.2.1.1
          refine vpu_of a5 T2.1.wf.2 (show 1 < 9 by decide) rfl ?_
          have T6 : QT G h2 (mv_set h5 h2.1 (cSel 0 a 0 0 1 0 0 none none)) r c s t p3 := (T4.tr T5).set (Nat.le_refl _) a5 (by decide) (fun fs w => by simp at w)
          have a6 : (mv_set h5 h2.1 (cSel 0 a 0 0 1 0 0 none none)).2.2 h2.1 = some (cSel 0 a 0 0 1 0 0 none none) := hs_s
          have n6 : (mv_set h5 h2.1 (cSel 0 a 0 0 1 0 0 none none)).1 = h5.1 := rfl
          have hs6 : mv_str G (mv_set h5 h2.1 (cSel 0 a 0 0 1 0 0 none none)) a (sl t p2 (p3 - p2)) := str_set a5 (by decide) _ _ hs
          rw [show [Value.int 0, Value.ref z, Value.int 0, Value.int 0, Value.int 1, Value.int 0, Value.int 0, va_rf none, va_rf none].set 1 (.ref a) = [Value.int 0, Value.ref a, Value.int 0, Value.int 0, Value.int 1, Value.int 0, Value.int 0, va_rf none, va_rf none] from rfl]
          generalize mv_set h5 h2.1 (cSel 0 a 0 0 1 0 0 none none) = h6 at T6 a6 n6 hs6
          have a7 := T6.2.1.at T2.1.wf.1 a2 (by omega)
          refine vob_of a7 ((sp_gAddL (ds := []) (e := (sNamed (sl t p2 (p3 - p2)), true)) hG (hSel_fr hL) (hSel_nx hL) a7 (Or.inl ⟨rfl, rfl, rfl, Nat.le_refl _⟩) (z := h6.1) ⟨by omega, by omega, 0, a, 0, 0, 1, 0, 0, none, a6, Or.inl ⟨rfl, _, hs6, rfl⟩⟩ (by omega) (T2.tr T6) (Nat.le_refl _)).mono fun o8 h8 hq => ?_)
          obtain ⟨ho8, T8, ⟨e8, _⟩, fr', a9, O9⟩ := hq
          refine Or.inl ⟨ho8, h.1, rfl, T8, ⟨Nat.le_refl _, mv_wf_lt T8.1.wf.1 a9, fr', some h2.1, [(sNamed (sl t p2 (p3 - p2)), true)], a9, by rw [e8]; exact O9, rfl, ?_⟩, by omega⟩
          show (!bw) = (!bw && [(sNamed (sl t p2 (p3 - p2)), true)].length == 1 && [(sNamed (sl t p2 (p3 - p2)), true)].all (·.2))
          simp
        · rw [e]
          have I : IQ G h4 h5 c s w := by rw [← hh]; exact T4.1.st.ill
          have n5 : h5.1 = h4.1 + 1 := by rw [← hh]; rfl
          exact Or.inr ⟨_, ho5, QR.ill (T2.tr T4) hpp I ⟨_, rfl⟩ (by omega)⟩
    refine vif_of (fun c1 => ?_) (fun c1 => ?_)
    · cases dot with
      | false =>
        rw [if_pos ⟨c1, Or.inl rfl⟩]
        exact vif_y rfl (brk c1 (Or.inl rfl))
      | true =>
        refine vif_n (by decide) (vgi_of a2 rfl ?_)
        cases bw with
        | true =>
          rw [if_pos ⟨c1, Or.inr rfl⟩]
          exact vif_n (by decide) (brk c1 (Or.inr rfl))
        | false =>
          rw [if_neg (by simp)]
          exact vif_y rfl (nam rfl)
    · rw [if_neg (fun z => c1 z.1)]
      refine nam ?_
      cases dot with
      | true => rfl
      | false =>
        exfalso
        have h46 : lk t p ≠ 46 := by simpa using e1
        rw [if_neg h46] at e3
        rw [← e3] at c1
        rcases hp with z | z
        · exact h46 z
        · exact c1 z
  refine v_X5_readSegment hG ?_
  unfold w_X5_readSegment
  refine qPas (ch := 46) hG H (by omega) (by omega) (by omega) (fun c1 h1 T1 n1 => vnw_of (vif_n (by decide) ?_)) (fun c1 => vnw_of (vif_y rfl ?_))
  · have T2 : QT G h1 (mv_new h1 4 (.inr (9, [.int 0, .null, .null, .null]))) r c s t (p + 1) := T1.1.st.new (by omega) (fun fs w => by simp at w)
    have a2 : (mv_new h1 4 (.inr (9, [.int 0, .null, .null, .null]))).2.2 h1.1 = some (.inr (9, [.int 0, .null, .null, .null])) := hn_s
    have n2 : (mv_new h1 4 (.inr (9, [.int 0, .null, .null, .null]))).1 = h1.1 + 1 := rfl
    generalize mv_new h1 4 (.inr (9, [.int 0, .null, .null, .null])) = h2 at T2 a2 n2
    rw [n1] at a2 n2 ⊢
    refine qPas (ch := 46) hG T2.1 (by omega) (by omega) (by omega) (fun c2 h3 T3 n3 => vif_n (by decide) ?_) (fun c2 => vif_y rfl (v_X5_readSegment_34 hG ?_))
    · exact rest h3 true true (p + 1 + 1) (by simp [c1]) (by simp [c1, c2]) (by rw [if_pos c1, if_pos c2]) (T1.tr (T2.tr T3)) (T3.2.1.at T2.1.wf.1 a2 (by omega)) (by omega) (fun _ => by omega) (by omega)
    · unfold w_X5_readSegment_34
      exact rest h2 true false (p + 1) (by simp [c1]) (by simp [c2]) (by rw [if_pos c1, if_neg c2]) (T1.tr T2) a2 n2 (fun _ => by omega) (by omega)
  · have T2 : QT G h (mv_new h 4 (.inr (9, [.int 0, .null, .null, .null]))) r c s t p := H.st.new (by omega) (fun fs w => by simp at w)
    refine v_X5_readSegment_34 hG ?_
    unfold w_X5_readSegment_34
    exact rest _ false false p (by simp [c1]) (by simp [c1]) (by rw [if_neg c1]) T2 hn_s rfl (fun z => by cases z) (Nat.le_refl _)
end QG
