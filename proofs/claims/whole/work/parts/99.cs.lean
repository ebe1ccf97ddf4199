/-- the level below: its tests, paths and things are read -/
def LSp (l : Launch) (G : mv_G) (r c s : Nat) (t : List Nat) (L : Lv) (H : HV) (dep er dd : Nat) : Prop :=
  (∀ d h p, dd ≤ d → QS G h r c s t p → mv_rq l G mX5_readTest d 0 (mv_in [.ref r, .int (nI dep)] 3) [] h (QR G h r c s t p (nn H.1) 0 0 er (L.1 p))) ∧
  (∀ d h p, dd ≤ d → QS G h r c s t p → isPt t p → mv_rq l G mX5_readPath d 0 (mv_in [.ref r, .int (nI dep)] 4) [] h (QR G h r c s t p H.2.1 3 0 er (L.2.1 p))) ∧
  (∀ d h p, dd ≤ d → QS G h r c s t p → mv_rq l G mX5_readThing d 0 (mv_in [.ref r, .int (nI dep)] 4) [] h (QR G h r c s t p H.2.2 1 0 er (L.2.2 p)))
def LOp (l : Launch) (G : mv_G) (r c s : Nat) (t : List Nat) (lo : Option Lv) (ho : Option HV) (dep er dd : Nat) : Prop := (lo = none ∧ ho = none ∧ dep = 4) ∨ ∃ L H, lo = some L ∧ ho = some H ∧ dep < 4 ∧ LSp l G r c s t L H (dep + 1) er dd ∧ hNx 11 3 H.1
section QF
variable {l : Launch} {G : mv_G} {d : Nat} {r c s : Nat} {t : List Nat} {lo : Option Lv} {ho : Option HV} {dep er dd : Nat}
theorem sp_readSelector {h : mv_H} {p : Nat} (hG : mv_ok G) (hX : mv_okX l G) (ht : tOk t) (hL : hLo G ho) (hO : LOp l G r c s t lo ho dep er dd) (H : QS G h r c s t p) (he : 1 ≤ er) (hdp : dep ≤ 4) (hdd : 8 ≤ dd) (hd : dd + 3 ≤ d) (hd8 : 12 ≤ d) : mv_rq l G mX5_readSelector (d + 1) 0 (mv_in [.ref r, .int (nI dep)] 3) [] h (QR G h r c s t p (nn (hSel G ho)) 0 0 (er + 2) (qSel t lo p)) := by
  obtain ⟨hw, hb⟩ := H.wf
  obtain ⟨fs, hrd⟩ := H.rd
  have hz := H.2.2.2.1.2.2.1
  obtain ⟨z, z1, z2⟩ := hz
  obtain ⟨d', rfl⟩ : ∃ d', d = d' + 1 := ⟨d - 1, by omega⟩
  have hcc := H.st.2.2.2
  refine v_X5_readSelector hG ?_
  unfold w_X5_readSelector
  refine qLok hG H (by omega) ?_
  rw [show (nI (lk t p) = 39) = (lk t p = 39) from nIlk H (k := 39) (by omega), show (nI (lk t p) = 42) = (lk t p = 42) from nIlk H (k := 42) (by omega), show (nI (lk t p) = 58) = (lk t p = 58) from nIlk H (k := 58) (by omega), show (nI (lk t p) = 63) = (lk t p = 63) from nIlk H (k := 63) (by omega)]
  refine vif_of (fun c1 => ?_) (fun c1 => ?_)
  · -- a name in quotes
    have eqA : qSel t lo p = rB (rdQ t 39 p) fun nm p1 => .inl ((sNamed nm, true), p1) := by unfold qSel; rw [if_pos c1]
    rw [eqA]
    refine vnw_of (vU_of (sp_sInit hG hn_s hb z1) ?_)
    rw [mv_set_new]
    have T0 : QT G h (mv_new h 9 (cSel 0 z 0 0 1 0 0 none none)) r c s t p := H.st.new (by omega) (fun fs w => by simp at w)
    have a0 : (mv_new h 9 (cSel 0 z 0 0 1 0 0 none none)).2.2 h.1 = some (cSel 0 z 0 0 1 0 0 none none) := hn_s
    have n0 : (mv_new h 9 (cSel 0 z 0 0 1 0 0 none none)).1 = h.1 + 1 := rfl
    generalize mv_new h 9 (cSel 0 z 0 0 1 0 0 none none) = h0 at T0 a0 n0
    obtain ⟨⟨cv, g1⟩, g2, g3, g4, g5, g6⟩ := id T0.1
    refine vgb_of g1 rfl (vob_of g2 ((sp_readString (qt := 39) (br := 39) hG hX g2 g3 g4.1 ht.1 (by omega) (by omega) (by omega) g6 g5.2 (by omega)).mono fun o h2 hq => ?_))
    rcases hq with ⟨p', e, hp', hbp, a, ho, hs, hm⟩ | ⟨w, p'', e, ho, hh⟩
    · refine Or.inl ⟨a, ho, ?_⟩
      have T1 : QT G h0 (mv_set h0 c (curE s (p' + 1) (-1))) r c s t (p' + 1) := T0.1.st.cur hp'
      have T2 := T1.made hm
      have a2 := T2.2.1.at T0.1.wf.1 a0 (by omega)
      have hn2 : h2.1 ≤ h.1 + 3 := by have := hm.2.1; have e9 : (mv_set h0 c (curE s (p' + 1) (-1))).1 = h0.1 := rfl; omega
      have hn3 := T2.2.1.2.1.1
      refine vpu_of a2 hb (show 1 < 9 by decide) rfl ?_
      have eq1 : rdQ t 39 p = .inl (sl t (p + 1) (p' - (p + 1)), p' + 1) := by unfold rdQ; rw [e]
      rw [eq1]
      refine ⟨h.1, rfl, (T0.tr T2).set (Nat.le_refl _) a2 (by decide) (fun fs w => by simp at w), ⟨Nat.le_refl _, by show h.1 < h2.1; omega, 0, a, 0, 0, 1, 0, 0, none, hs_s, Or.inl ⟨rfl, _, str_set a2 (by decide) _ _ hs, rfl⟩⟩, ?_⟩
      show h2.1 + 5 * p + 0 ≤ h.1 + 5 * (p' + 1) + 0
      omega
    · have eq1 : rdQ t 39 p = .inr w := by unfold rdQ; rw [e]
      rw [eq1]
      have I : IQ G h0 h2 c s w := by rw [← hh]; exact T0.1.st.ill
      have n2 : h2.1 = h0.1 + 1 := by rw [← hh]; rfl
      exact Or.inr ⟨_, ho, QR.ill T0 (Nat.le_refl _) I ⟨_, rfl⟩ (by omega)⟩
  · refine vif_of (fun c2 => ?_) (fun c2 => ?_)
    · -- all children
      have eqA : qSel t lo p = .inl ((sAll, false), p + 1) := by unfold qSel; rw [if_neg c1, if_pos c2]
      rw [eqA]
      refine qSkp hG H (lk_lt c2 (by omega)) (by omega) (fun h1 T1 e1 => ?_)
      obtain ⟨z', z1', _⟩ := T1.1.2.2.2.1.2.2.1
      refine vnw_of (vU_of (sp_sInit hG hn_s T1.1.wf.2 z1') ?_)
      rw [mv_set_new]
      refine ⟨h1.1, rfl, T1.new (by omega) (fun fs w => by simp at w), ⟨by omega, Nat.lt_succ_self _, 1, z', 0, 0, 1, 0, 0, none, hn_s, Or.inr (Or.inl ⟨rfl, rfl⟩)⟩, ?_⟩
      show h1.1 + 1 + 5 * p + 0 ≤ _
      omega
    · refine vif_of (fun c3 => ?_) (fun c3 => ?_)
      · -- a stretch
        have eqA : qSel t lo p = qStr t false 0 p := by unfold qSel; rw [if_neg c1, if_neg c2, if_neg (by omega), if_pos c3]
        rw [eqA]
        refine vob_of hrd ((sp_readStretch (lo := ho) (er := er + 2) (hf := false) (f := 0) hG hX H sm0 (by omega) (by omega)).mono fun o h1 hq => ?_)
        cases hx : qStr t false 0 p with
        | inl x =>
          rw [hx] at hq
          obtain ⟨a, ho, T2, P2, b2⟩ := hq
          exact Or.inl ⟨a, ho, a, rfl, T2, P2, by omega⟩
        | inr w =>
          rw [hx] at hq
          obtain ⟨⟨q, ho⟩, I, b2⟩ := hq
          exact Or.inr ⟨_, ho, ⟨_, rfl⟩, I, b2⟩
      · refine vif_of (fun c4 => ?_) (fun c4 => ?_)
        · -- a condition
          refine vob_of hrd ((sp_open (ch := 63) hG hX H (by omega) (by omega) hdp (by omega)).mono fun o h1 hq => ?_)
          rcases hO with ⟨rfl, rfl, hdep⟩ | ⟨L, HH, rfl, rfl, hdep, hLS, hNN⟩
          · have eqA : qSel t none p = .inr p := by unfold qSel; rw [if_neg c1, if_neg c2, if_pos c4]
            rw [eqA]
            rw [if_neg (by omega)] at hq
            obtain ⟨⟨q, ho⟩, I, b2⟩ := hq
            exact Or.inr ⟨_, ho, ⟨_, rfl⟩, I, by have := H.2.2.2.2.2; omega⟩
          · have eqA : qSel t (some L) p = rB (qAny t L.1 (p + 1)) fun c p1 => .inl ((sCond c, false), p1) := by unfold qSel; rw [if_neg c1, if_neg c2, if_pos c4]
            rw [eqA]
            rw [if_pos ⟨c4, hdep⟩] at hq
            obtain ⟨ho, T1, e1⟩ := hq
            refine Or.inl ⟨ho, ?_⟩
            obtain ⟨z', z1', _⟩ := T1.1.2.2.2.1.2.2.1
            refine vnw_of (vU_of (sp_sInit hG hn_s T1.1.wf.2 z1') ?_)
            rw [mv_set_new]
            have T2 : QT G h (mv_new h1 9 (cSel 4 z' 0 0 1 0 0 none none)) r c s t (p + 1) := T1.new (by omega) (fun fs w => by simp at w)
            have a2 : (mv_new h1 9 (cSel 4 z' 0 0 1 0 0 none none)).2.2 h1.1 = some (cSel 4 z' 0 0 1 0 0 none none) := hn_s
            have n2 : (mv_new h1 9 (cSel 4 z' 0 0 1 0 0 none none)).1 = h1.1 + 1 := rfl
            generalize mv_new h1 9 (cSel 4 z' 0 0 1 0 0 none none) = h2 at T2 a2 n2
            obtain ⟨fs2, hrd2⟩ := T2.1.rd
            have hE1 := (hL HH rfl).1
            rw [nI_1]
            obtain ⟨d'', rfl⟩ : ∃ d'', d' = d'' + 1 := ⟨d' - 1, by omega⟩
            refine vob_of hrd2 ((sp_readAny (E := hAll HH.1) (E0 := HH.1) (rd := qAll t L.1) (er := er + 1) (dd := dd + 1) hG hX rfl (hAll_fr hE1) (hAll_nx hE1) (fun d h p hd H => ?_) T2.1 (by omega) (by omega) (by omega)).mono fun o h3 hq => ?_)
            · obtain ⟨d, rfl⟩ : ∃ d', d = d' + 1 := ⟨d - 1, by omega⟩
              exact sp_readAll (dd := dd) hG hX hE1 hNN hLS.1 H (by omega) (by omega) he
            · show vB _ _ _ _
              have eq1 : qAny t L.1 (p + 1) = rB (qSeq t 124 (qAll t L.1) (p + 1)) fun cs p1 => .inl (anyR cs, p1) := rfl
              rw [← eq1] at hq
              cases hx : qAny t L.1 (p + 1) with
              | inl x =>
                obtain ⟨cnd, p3⟩ := x
                rw [hx] at hq
                obtain ⟨a, ho, T3, P3, b3⟩ := hq
                have a3 := T3.2.1.at T2.1.wf.1 a2 (by omega)
                have hn3 := T3.2.1.2.1.1
                refine Or.inl ⟨a, ho, vpu_of a3 T1.1.wf.2 (show 7 < 9 by decide) rfl ⟨h1.1, rfl, (T2.tr T3).set (by omega) a3 (by decide) (fun fs w => by simp at w), ⟨by omega, by show h1.1 < h3.1; omega, 4, z', 0, 0, 1, 0, 0, some a, hs_s, Or.inr (Or.inr (Or.inr (Or.inr ⟨rfl, a, cnd, HH, rfl, rfl, ?_, rfl⟩)))⟩, ?_⟩⟩
                · refine (hAny_fr hE1).1 _ _ _ _ _ _ (show hAny HH.1 h3 (h1.1 + 1) h3.1 a (none, cnd) by rw [← n2]; exact P3) (fun b x1 x2 => hs_n (by omega)) (str_set a3 (by decide))
                · show h3.1 + 5 * p + 0 ≤ h.1 + 5 * p3 + 0
                  omega
              | inr w =>
                rw [hx] at hq
                obtain ⟨⟨q, ho⟩, I, b3⟩ := hq
                exact Or.inr ⟨_, ho, ⟨_, rfl⟩, I.tr T2.2.1, by omega⟩
        · -- a place
          have eqA : qSel t lo p = rB (rdN t 3 p) fun v p1 => if lk t p1 = 58 then qStr t true v p1 else .inl ((sPlace v, true), p1) := by unfold qSel; rw [if_neg c1, if_neg c2, if_neg c4, if_neg c3]
          rw [eqA]
          refine vob_of hrd ((sp_readPlaceOrStretch (lo := ho) (er := er + 2) hG hX H (by omega) (by omega)).mono fun o h1 hq => ?_)
          cases hx : (rB (rdN t 3 p) fun v p1 => if lk t p1 = 58 then qStr t true v p1 else .inl ((sPlace v, true), p1)) with
          | inl x =>
            rw [hx] at hq
            obtain ⟨a, ho, T2, P2, b2⟩ := hq
            exact Or.inl ⟨a, ho, a, rfl, T2, P2, by omega⟩
          | inr w =>
            rw [hx] at hq
            obtain ⟨⟨q, ho⟩, I, b2⟩ := hq
            exact Or.inr ⟨_, ho, ⟨_, rfl⟩, I, b2⟩
end QF
