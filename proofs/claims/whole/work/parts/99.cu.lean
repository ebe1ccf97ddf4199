theorem rdP_lt {t : List Nat} (ht : tOk t) {p p' : Nat} {kd sz : Int32} {tx : List Nat} (h : rdP t 39 39 p = .inl (kd, sz, tx, p')) : p < p' := by
  have w : ∀ {v : List Nat} {k : Int32}, (∀ j, j < v.length → lk v j ≠ 0) → 0 < v.length → rdW t v k p = .inl (kd, sz, tx, p') → p < p' := fun {v k} hv h0 hh => by
    unfold rdW at hh
    cases e : exW t v v.length 0 p with
    | inr w => rw [e] at hh; cases hh
    | inl q =>
      rw [e] at hh
      cases hh
      have := exW_len hv e
      omega
  unfold rdP at h
  split at h
  · cases e : rdS t 39 39 p with
    | inr w => rw [e] at h; cases h
    | inl q =>
      rw [e] at h
      cases h
      unfold rdS at e
      rw [if_pos (by assumption)] at e
      have := (rsL_in ht (by omega) e).1
      omega
  · split at h
    · exact w (by decide) (by decide) h
    · split at h
      · exact w (by decide) (by decide) h
      · split at h
        · exact w (by decide) (by decide) h
        · cases e : rdN t 6 p with
          | inr w => rw [e] at h; cases h
          | inl q =>
            rw [e] at h
            cases h
            exact rdN_lt (lim := 5) e
section QH
variable {l : Launch} {G : mv_G} {d : Nat} {r c s : Nat} {t : List Nat} {lo : Option Lv} {ho : Option HV} {dep er dd : Nat}
theorem loopPth {h0 : mv_H} {p0 : Nat} {rt : Bool} (hG : mv_ok G) (hX : mv_okX l G) (ht : tOk t) (hL : hLo G ho) (hO : LOp l G r c s t lo ho dep er dd) (he : 2 ≤ er) (hdp : dep ≤ 4) (hdd : 8 ≤ dd) (hd : dd + 6 ≤ d) (hd8 : 15 ≤ d) :
    ∀ (k i p : Nat) (h : mv_H) (ss : List ((Bool × List dSel) × Bool)) (fr la : Option Nat), i + k = 160 → QT G h0 h r c s t p → h.2.2 h0.1 = some (cPth (b2i rt) fr la (nI ss.length) (b2i (ss.all (·.2)))) → hOL (hSeg G ho) h ss (h0.1 + 1) h.1 fr la → h.1 + 5 * p0 + 3 ≤ h0.1 + 5 * p →
    mv_rq l G mX5_readPath (d + 1) 34 [some (.ref r), some (.int (nI dep)), some (.ref h0.1), some (.int (nI i))] [] h (QR G h0 r c s t p0 (hPth G ho) 3 0 (er + 2) (rB (qSegs t lo k p) fun (ss' : List ((Bool × List dSel) × Bool)) p1 => .inl ((pthD rt ((ss ++ ss').map (fun q => q.1)), (ss ++ ss').all (fun q => q.2), (ss ++ ss').length), p1))) := by
  obtain ⟨d, rfl⟩ : ∃ d', d = d' + 1 := ⟨d - 1, by omega⟩
  have fin : ∀ (h : mv_H) (p : Nat) (ss : List ((Bool × List dSel) × Bool)) (fr la : Option Nat), QT G h0 h r c s t p → h.2.2 h0.1 = some (cPth (b2i rt) fr la (nI ss.length) (b2i (ss.all (·.2)))) → hOL (hSeg G ho) h ss (h0.1 + 1) h.1 fr la → h.1 + 5 * p0 + 3 ≤ h0.1 + 5 * p → QR G h0 r c s t p0 (hPth G ho) 3 0 (er + 2) (.inl ((pthD rt ((ss ++ ([] : List ((Bool × List dSel) × Bool))).map (fun q => q.1)), (ss ++ ([] : List ((Bool × List dSel) × Bool))).all (fun q => q.2), (ss ++ ([] : List ((Bool × List dSel) × Bool))).length), p)) (.inl (some (.ref h0.1))) h := by
    intro h p ss fr la T ha O hbd
    rw [List.append_nil]
    exact ⟨h0.1, rfl, T, ⟨Nat.le_refl _, mv_wf_lt T.1.wf.1 ha, rt, fr, la, ss, ha, O, rfl⟩, by omega⟩
  intro k
  induction k with
  | zero =>
    intro i p h ss fr la hi T ha O hbd
    refine v_X5_readPath_34 hG ?_
    unfold w_X5_readPath_34
    exact vif_y (nI_le (a := 160) (by omega) (by omega)) (fin h p ss fr la T ha O hbd)
  | succ k ih =>
    intro i p h ss fr la hi T ha O hbd
    have hcc := T.2.2.2
    have hlt : h0.1 < h.1 := mv_wf_lt T.1.wf.1 ha
    obtain ⟨fs, hrd⟩ := T.1.rd
    refine v_X5_readPath_34 hG ?_
    unfold w_X5_readPath_34
    refine vif_n (fun z => absurd ((nI_leI (a := 160) (b := i) (by omega) (by omega)).mp z) (by omega)) (vob_of hrd (vI_of (sp_seesSegment hG T.1 (by omega)) ?_))
    by_cases c1 : lk t p = 46 ∨ lk t p = 91
    · rw [if_pos c1]
      have eqq : qSegs t lo (k + 1) p = rB (qSeg t lo p) fun s p1 => rB (qSegs t lo k p1) fun ss p2 => .inl (s :: ss, p2) := by rw [qSegs, if_pos c1]
      rw [eqq]
      refine vif_n (by decide) (vob_of hrd ((sp_readSegment hG hX ht hL hO he hdp hdd (by omega) (by omega) T.1 c1).mono fun o h1 hq => ?_))
      cases hx : qSeg t lo p with
      | inr w =>
        rw [hx] at hq
        obtain ⟨⟨q, ho1⟩, I, b⟩ := hq
        exact Or.inr ⟨_, ho1, ⟨_, rfl⟩, I.tr T.2.1, by omega⟩
      | inl x =>
        obtain ⟨e, p1⟩ := x
        rw [hx] at hq
        obtain ⟨b, ho1, T1, P1, b1⟩ := hq
        refine Or.inl ⟨b, ho1, ?_⟩
        have ha1 := T1.2.1.at T.1.wf.1 ha (by omega)
        refine vob_of ha1 ((sp_pAddL hG hL ha1 (O.q (hSeg_fr hL) T1.2.1 (by omega) (Nat.le_refl _)) P1 T1.2.1.2.1.1 (T.tr T1) (Nat.le_refl _)).mono fun o2 h2 hq2 => ?_)
        obtain ⟨ho2, T2, ⟨e2, _⟩, fr', ha2, O2⟩ := hq2
        refine Or.inl ⟨ho2, ?_⟩
        rw [nI_1]
        refine (ih (i + 1) p1 h2 (ss ++ [e]) fr' (some b) (by omega) T2 ha2 (by rw [e2]; exact O2) (by omega)).mono fun o3 h3 hq3 => ?_
        cases hy : qSegs t lo k p1 with
        | inr w =>
          rw [hy] at hq3
          simp only [rB, hy]
          exact hq3
        | inl y =>
          obtain ⟨ss', p2⟩ := y
          rw [hy] at hq3
          simp only [rB, hy] at hq3 ⊢
          rw [show ss ++ (e :: ss') = ss ++ [e] ++ ss' by simp]
          exact hq3
    · rw [if_neg c1]
      have eqq : qSegs t lo (k + 1) p = .inl ([], p) := by rw [qSegs, if_neg c1]
      rw [eqq]
      exact vif_y rfl (fin h p ss fr la T ha O hbd)
theorem sp_readPath {h : mv_H} {p : Nat} (hG : mv_ok G) (hX : mv_okX l G) (ht : tOk t) (hL : hLo G ho) (hO : LOp l G r c s t lo ho dep er dd) (he : 2 ≤ er) (hdp : dep ≤ 4) (hdd : 8 ≤ dd) (hd : dd + 6 ≤ d) (hd8 : 15 ≤ d) (H : QS G h r c s t p) (hp : p < t.length) :
    mv_rq l G mX5_readPath (d + 1) 0 (mv_in [.ref r, .int (nI dep)] 4) [] h (QR G h r c s t p (hPth G ho) 3 0 (er + 2) (qPath t lo p)) := by
  obtain ⟨hw, hb⟩ := H.wf
  have hcc := H.st.2.2.2
  refine v_X5_readPath hG ?_
  unfold w_X5_readPath
  refine vnw_of ?_
  have T0 : QT G h (mv_new h 5 (.inr (6, [.int 0, .null, .null, .int 0, .int 0]))) r c s t p := H.st.new (by omega) (fun fs w => by simp at w)
  have a0 : (mv_new h 5 (.inr (6, [.int 0, .null, .null, .int 0, .int 0]))).2.2 h.1 = some (.inr (6, [.int 0, .null, .null, .int 0, .int 0])) := hn_s
  have n0 : (mv_new h 5 (.inr (6, [.int 0, .null, .null, .int 0, .int 0]))).1 = h.1 + 1 := rfl
  generalize mv_new h 5 (.inr (6, [.int 0, .null, .null, .int 0, .int 0])) = h0 at T0 a0 n0
  have rest : ∀ rt : Bool, (lk t p == 36) = rt → mv_rq l G mX5_readPath (d + 1) 21 [some (.ref r), some (.int (nI dep)), none, none] [.int (b2i rt), .ref h.1, .ref h.1] h0 (QR G h r c s t p (hPth G ho) 3 0 (er + 2) (qPath t lo p)) := fun rt hrt => by
    refine v_X5_readPath_21 hG ?_
    unfold w_X5_readPath_21
    obtain ⟨d', hd'⟩ : ∃ d', d = d' + 1 := ⟨d - 1, by omega⟩
    have i1 : mv_rq l G mX4_init d 0 (mv_in [.ref h.1, .int (b2i rt)] 2) [] h0 (fun o h1 => o = .inl none ∧ mv_set h0 h.1 (cPth (b2i rt) none none 0 1) = h1) := by
      rw [hd']; exact sp_pInit rt hG a0 hb
    refine vU_of i1 ?_
    have T1 : QT G h (mv_set h0 h.1 (cPth (b2i rt) none none 0 1)) r c s t p := T0.set (Nat.le_refl _) a0 (by decide) (fun fs w => by simp at w)
    have a1 : (mv_set h0 h.1 (cPth (b2i rt) none none 0 1)).2.2 h.1 = some (cPth (b2i rt) none none 0 1) := hs_s
    have n1 : (mv_set h0 h.1 (cPth (b2i rt) none none 0 1)).1 = h.1 + 1 := n0
    generalize mv_set h0 h.1 (cPth (b2i rt) none none 0 1) = h1 at T1 a1 n1
    refine qSkp hG T1.1 hp (by omega) (fun h2 T2 n2 => ?_)
    refine (loopPth (p0 := p) (rt := rt) (lo := lo) hG hX ht hL hO he hdp hdd hd hd8 160 0 (p + 1) h2 [] none none rfl (T1.tr T2) (T2.2.1.at T1.1.wf.1 a1 (by omega)) (Or.inl ⟨rfl, rfl, rfl, by omega⟩) (by omega)).mono fun o3 h3 hq3 => ?_
    unfold qPath
    rw [hrt]
    exact hq3
  refine qLok hG T0.1 (by omega) ?_
  rw [show (nI (lk t p) = 36) = (lk t p = 36) from nIlk T0.1 (k := 36) (by omega)]
  exact vif_of (fun c1 => rest true (by simp [c1])) (fun c1 => rest false (by simp [c1]))
/-- a path is taken as a thing -/
theorem sp_thingOfPath {h h0 : mv_H} {p p0 b x : Nat} {e : dPth × Bool × Nat} (hG : mv_ok G) (hX : mv_okX l G) (hL : hLo G ho) (T : QT G h0 h r c s t p) (P : hPth G ho h h0.1 h.1 b e) (hd : 7 ≤ d) :
    mv_rq l G mX5_thingOfPath (d + 1) 0 (mv_in [.ref r, .ref b, .int (nI x)] 4) [] h (fun o h1 => (e.2.1 = true ∧ ∃ a, o = .inl (some (.ref a)) ∧ QT G h0 h1 r c s t p ∧ hThg G ho h1 h0.1 h1.1 a (pthV e.1) ∧ h1.1 = h.1 + 2) ∨ (e.2.1 = false ∧ (∃ q, o = .inr (xIA, q)) ∧ IQ G h0 h1 c s x ∧ h1.1 = h.1 + 1)) := by
  obtain ⟨hw, hb⟩ := T.1.wf
  have hcc := T.2.2.2
  obtain ⟨x1, x2, rt, fr, la, ss, b1, b2, b3⟩ := id P
  refine v_X5_thingOfPath hG ?_
  unfold w_X5_thingOfPath
  refine vgi_of b1 rfl ?_
  show vif (b2i e.2.1 = 0) _ _
  cases he : e.2.1 with
  | false =>
    obtain ⟨⟨cv, a1⟩, a2, a3, a4, a5, a6⟩ := id T.1
    refine vif_y rfl (vgb_of a1 rfl (vob_of a2 (qRef (w := x) hG hX T.1 hd (fun q h1 I e1 => Or.inr ⟨rfl, ⟨_, rfl⟩, I.tr T.2.1, e1⟩))))
  | true =>
    refine vif_n (by decide) (v_X5_thingOfPath_15 hG ?_)
    unfold w_X5_thingOfPath_15
    obtain ⟨z, z1, _⟩ := T.1.2.2.2.1.2.2.2.1
    obtain ⟨d, rfl⟩ : ∃ d', d = d' + 2 := ⟨d - 2, by omega⟩
    refine vnw_of (vU_of (sp_hInit hG hw hb z1) ?_)
    have T1 : QT G h0 (mv_new (mv_new h 4 (cThg 1 none none (h.1 + 1))) 10 (valE 0 0 z (-1) z (-1) 0 0 0 0)) r c s t p := (T.new (by omega) (fun fs w => by simp at w)).new (by omega) (fun fs w => by simp at w)
    have R1 : qst G h (mv_new (mv_new h 4 (cThg 1 none none (h.1 + 1))) 10 (valE 0 0 z (-1) z (-1) 0 0 0 0)) c := ((T.1.st.new (by omega) (fun fs w => by simp at w)).new (by omega) (fun fs w => by simp at w)).2.1
    have a1 : (mv_new (mv_new h 4 (cThg 1 none none (h.1 + 1))) 10 (valE 0 0 z (-1) z (-1) 0 0 0 0)).2.2 h.1 = some (cThg 1 none none (h.1 + 1)) := by
      rw [hn_n (show h.1 ≠ h.1 + 1 by omega)]; exact hn_s
    have a2 : (mv_new (mv_new h 4 (cThg 1 none none (h.1 + 1))) 10 (valE 0 0 z (-1) z (-1) 0 0 0 0)).2.2 (h.1 + 1) = some (valE 0 0 z (-1) z (-1) 0 0 0 0) := hn_s (h := mv_new h 4 (cThg 1 none none (h.1 + 1)))
    have n1 : (mv_new (mv_new h 4 (cThg 1 none none (h.1 + 1))) 10 (valE 0 0 z (-1) z (-1) 0 0 0 0)).1 = h.1 + 2 := rfl
    generalize mv_new (mv_new h 4 (cThg 1 none none (h.1 + 1))) 10 (valE 0 0 z (-1) z (-1) 0 0 0 0) = h1 at T1 R1 a1 a2 n1
    have P1 := (hPth_fr hL).q P R1 (by omega) (Nat.le_refl _)
    have h0h := T.2.1.2.1.1
    refine vpu_of a1 hb (show 1 < 4 by decide) rfl (Or.inl ⟨rfl, h.1, rfl, T1.set h0h a1 (by decide) (fun fs w => by simp at w), ⟨h0h, by show h.1 + 1 < h1.1; omega, 1, some b, none, hs_s, 0, 0, z, -1, z, -1, 0, 0, 0, 0, by rw [hs_n (by omega)]; exact a2, Or.inr (Or.inl ⟨rfl, b, e, rfl, ?_, rfl⟩)⟩, n1⟩)
    exact (hPth_fr hL).1 _ _ _ _ _ _ P1 (fun q x1 x2 => hs_n (by omega)) (str_set a1 (by decide))
/-- something written -/
def w_written (l : Launch) (G : mv_G) (d : Nat) (u0 : Nat) (h : mv_H) (Q : mv_O → mv_H → Prop) : Prop :=
  vnw h 4 (.inr (12, [.int 0, .null, .null, .null])) fun a0 h0 =>
  mv_rq l G mX10_init d 0 (mv_in [.ref a0, .int 0] 2) [] h0 (vU (fun E h1 => Q (.inr E) h1) (fun h5 =>
  vgb h5 u0 7 0 fun x10 =>
  vgb h5 a0 12 3 fun x14 =>
  vob h5 x10 2 (
  mv_rq l G mX0_readPlain d 0 (mv_in [.ref x10, .ref x14, .int 39, .int 39] 5) [] h5 (vU (fun E h1 => Q (.inr E) h1) (fun h21 =>
  Q (.inl (some (.ref a0))) h21)))))
theorem sp_written {h : mv_H} {p : Nat} (hG : mv_ok G) (hX : mv_okX l G) (ht : tOk t) (H : QS G h r c s t p) (he : 3 ≤ er) (hd : 10 ≤ d) :
    w_written l G d r h (QR G h r c s t p (hThg G ho) 1 0 er (match rdP t 39 39 p with
    | .inr w => .inr w
    | .inl (kd, sz, tx, p1) => .inl (wrtV (kd, sz, tx), p1))) := by
  obtain ⟨hw, hb⟩ := H.wf
  have hcc := H.st.2.2.2
  obtain ⟨d, rfl⟩ : ∃ d', d = d' + 2 := ⟨d - 2, by omega⟩
  unfold w_written
  obtain ⟨z, z1, _⟩ := H.2.2.2.1.2.2.2.1
  refine vnw_of (vU_of (sp_hInit hG hw hb z1) ?_)
  have T1 : QT G h (mv_new (mv_new h 4 (cThg 0 none none (h.1 + 1))) 10 (valE 0 0 z (-1) z (-1) 0 0 0 0)) r c s t p := (H.st.new (by omega) (fun fs w => by simp at w)).new (by omega) (fun fs w => by simp at w)
  have a1 : (mv_new (mv_new h 4 (cThg 0 none none (h.1 + 1))) 10 (valE 0 0 z (-1) z (-1) 0 0 0 0)).2.2 h.1 = some (cThg 0 none none (h.1 + 1)) := by
    rw [hn_n (show h.1 ≠ h.1 + 1 by omega)]; exact hn_s
  have a2 : (mv_new (mv_new h 4 (cThg 0 none none (h.1 + 1))) 10 (valE 0 0 z (-1) z (-1) 0 0 0 0)).2.2 (h.1 + 1) = some (valE 0 0 z (-1) z (-1) 0 0 0 0) := hn_s (h := mv_new h 4 (cThg 0 none none (h.1 + 1)))
  have n1 : (mv_new (mv_new h 4 (cThg 0 none none (h.1 + 1))) 10 (valE 0 0 z (-1) z (-1) 0 0 0 0)).1 = h.1 + 2 := rfl
  generalize mv_new (mv_new h 4 (cThg 0 none none (h.1 + 1))) 10 (valE 0 0 z (-1) z (-1) 0 0 0 0) = h1 at T1 a1 a2 n1
  obtain ⟨⟨cv, g1⟩, g2, g3, g4, g5, g6⟩ := id T1.1
  obtain ⟨y0, y1, y2, y3, hlit⟩ := g4.2.1
  refine vgb_of g1 rfl (vgb_of a1 rfl (vob_of g2 ((sp_readPlain (qt := 39) (br := 39) hG hX g2 g3 a2 g4.1 hlit ht.1 (by omega) (by omega) (by omega) g6 g5.2 (by omega) (by omega)).mono fun o h2 hq => ?_)))
  rcases hq with ⟨kd, sz, tx, p', a, hm, e, hp', ho1, hmd, hs, hh⟩ | ⟨w, p'', e, ho1, hh⟩
  · rw [e]
    have T2 : QT G h hm r c s t p' := (T1.cur hp').made hmd
    have R2 : qst G h1 hm c := ((T1.1.st.cur hp').made hmd).2.1
    have b1 := R2.at T1.1.wf.1 a1 (by omega)
    have b2 := R2.at T1.1.wf.1 a2 (by omega)
    have n2 : hm.1 ≤ h1.1 + 2 := hmd.2.1
    have n2' := R2.2.1.1
    have n3 : h2.1 = hm.1 := by rw [← hh]; rfl
    refine Or.inl ⟨ho1, h.1, rfl, ?_, ⟨Nat.le_refl _, by omega, 0, none, none, ?_, kd, sz, a, -1, z, -1, 0, 0, 0, 0, ?_, Or.inl ⟨rfl, tx, ?_, ?_, rfl⟩⟩, ?_⟩
    · rw [← hh]; exact T2.set (by omega) b2 (by decide) (fun fs w => by simp at w)
    · rw [← hh, hs_n (by omega)]; exact b1
    · rw [← hh]; exact hs_s
    · rw [← hh]; exact str_set b2 (by decide) _ _ hs
    · have := (rdP_ok ht (by omega) H.2.2.2.2.2 e).2.2.1
      intro hb
      rcases hb with w | w <;> rw [w] at this <;> exact absurd this (by decide)
    · have := rdP_lt ht e
      omega
  · rw [e]
    have I : IQ G h1 h2 c s w := by rw [← hh]; exact T1.1.st.ill
    have n2 : h2.1 = h1.1 + 1 := by rw [← hh]; rfl
    exact Or.inr ⟨_, ho1, QR.ill T1 (Nat.le_refl _) I ⟨_, rfl⟩ (by omega)⟩
end QH
