theorem qThg_pt {t : List Nat} {lo : Option Lv} {p : Nat} (hp : isPt t p) : qThg t lo p = rB (qPath t lo p) fun d p1 => if d.2.1 = true then .inl (pthV d.1, p1) else .inr p := by
  unfold qThg
  rw [if_pos hp]
theorem qThg_wr {t : List Nat} {lo : Option Lv} {p : Nat} (hp : ¬ isPt t p) (h1 : lk t p ≠ 108) (h2 : lk t p ≠ 99) : qThg t lo p = (match rdP t 39 39 p with
    | .inr w => .inr w
    | .inl (kd, sz, tx, p1) => .inl (wrtV (kd, sz, tx), p1)) := by
  unfold qThg
  rw [if_neg hp, if_neg h1, if_neg h2]
  cases rdP t 39 39 p <;> rfl
theorem hOL.one {G : mv_G} {α : Type} {E : HE α} (hE : hFr G E) {h : mv_H} {d : α} {x y b : Nat} {fr : Option Nat} (H : hOL E h [d] x y fr (some b)) : fr = some b ∧ E h x y b (none, d) := by
  rcases H with ⟨e, _⟩ | ⟨i, d0, a, mm, e1, e2, e3, e4, e5, e6⟩
  · cases e
  · cases i with
    | nil =>
      simp only [List.nil_append, List.cons.injEq, and_true] at e1
      subst e1
      cases e6
      exact ⟨e2.1, hE.2 _ _ _ _ _ _ _ e5 e2.2 (Nat.le_refl _)⟩
    | cons q i =>
      have := congrArg List.length e1
      simp at this
section QJ
variable {l : Launch} {G : mv_G} {d : Nat} {r c s : Nat} {t : List Nat} {lo : Option Lv} {ho : Option HV} {dep er dd : Nat}
theorem sp_readThing {h : mv_H} {p : Nat} (hG : mv_ok G) (hX : mv_okX l G) (ht : tOk t) (hL : hLo G ho) (hO : LOp l G r c s t lo ho dep er dd) (he : 2 ≤ er) (hdp : dep ≤ 4) (hdd : 8 ≤ dd) (hd : dd + 7 ≤ d) (hd8 : 16 ≤ d) (H : QS G h r c s t p) : mv_rq l G mX5_readThing (d + 1) 0 (mv_in [.ref r, .int (nI dep)] 4) [] h (QR G h r c s t p (hThg G ho) 1 0 (er + 2) (qThg t lo p)) := by
  obtain ⟨d, rfl⟩ : ∃ d', d = d' + 1 := ⟨d - 1, by omega⟩
  have hcc := H.st.2.2.2
  obtain ⟨fs, hrd⟩ := H.rd
  -- a path
  have pth : isPt t p → vgb h r 7 0 fun x49 => vgi h x49 2 1 fun x52 => vob h r 7 (mv_rq l G mX5_readPath (d + 1) 0 (mv_in [.ref r, .int (nI dep)] 4) [] h (vB (fun E h1 => QR G h r c s t p (hThg G ho) 1 0 (er + 2) (qThg t lo p) (.inr E) h1) (fun x59 h59 => vob h59 r 7 (mv_rq l G mX5_thingOfPath (d + 1) 0 (mv_in [.ref r, .ref x59, .int x52] 4) [] h59 (vB (fun E h1 => QR G h r c s t p (hThg G ho) 1 0 (er + 2) (qThg t lo p) (.inr E) h1) (fun x63 h63 => QR G h r c s t p (hThg G ho) 1 0 (er + 2) (qThg t lo p) (.inl (some (.ref x63))) h63)))))) := fun c1 => by
    have hpl : p < t.length := by rcases c1 with z | z <;> exact lk_lt z (by omega)
    rw [qThg_pt c1]
    refine H.at (vob_of hrd ((sp_readPath hG hX ht hL hO he hdp hdd (by omega) (by omega) H hpl).mono fun o h1 hq => ?_))
    cases hx : qPath t lo p with
    | inr w =>
      rw [hx] at hq
      obtain ⟨⟨q, ho1⟩, I, b⟩ := hq
      exact Or.inr ⟨_, ho1, ⟨_, rfl⟩, I, b⟩
    | inl x =>
      obtain ⟨e, p1⟩ := x
      rw [hx] at hq
      obtain ⟨b, ho1, T1, P1, b1⟩ := hq
      obtain ⟨fs1, hrd1⟩ := T1.1.rd
      refine Or.inl ⟨b, ho1, vob_of hrd1 ((sp_thingOfPath (x := p) (p0 := p) hG hX hL T1 P1 (by omega)).mono fun o2 h2 hq2 => ?_)⟩
      have eqE : (rB (.inl (e, p1)) fun (d : dPth × Bool × Nat) p1 => if d.2.1 = true then .inl (pthV d.1, p1) else .inr p) = (if e.2.1 = true then (.inl (pthV e.1, p1) : (dThg × Nat) ⊕ Nat) else .inr p) := rfl
      rw [eqE]
      rcases hq2 with ⟨z1, a, ho2, T2, P2, n2⟩ | ⟨z1, ⟨q, ho2⟩, I, n2⟩
      · rw [if_pos z1]
        exact Or.inl ⟨a, ho2, QR.mk T2 P2 (by omega)⟩
      · rw [if_neg (by rw [z1]; decide)]
        have := T1.1.2.2.2.2.2
        exact Or.inr ⟨_, ho2, ⟨_, rfl⟩, I, by omega⟩
  have pass : ∀ {M : mv_M} {L : List (Option Value)}, mv_rq l G M (d + 1) 0 L [] h (QR G h r c s t p (hThg G ho) 1 0 (er + 2) (qThg t lo p)) → mv_rq l G M (d + 1) 0 L [] h (vB (fun E h1 => QR G h r c s t p (hThg G ho) 1 0 (er + 2) (qThg t lo p) (.inr E) h1) (fun x h1 => QR G h r c s t p (hThg G ho) 1 0 (er + 2) (qThg t lo p) (.inl (some (.ref x))) h1)) := fun {M L} hm => hm.mono fun o h1 hq => by
    cases hx : qThg t lo p with
    | inr w =>
      rw [hx] at hq
      obtain ⟨⟨q, ho1⟩, I, b⟩ := hq
      exact Or.inr ⟨_, ho1, ⟨_, rfl⟩, I, b⟩
    | inl x =>
      rw [hx] at hq
      obtain ⟨b, ho1, z⟩ := hq
      exact Or.inl ⟨b, ho1, b, rfl, z⟩
  refine v_X5_readThing hG ?_
  unfold w_X5_readThing
  refine qLok hG H (by omega) ?_
  rw [show (nI (lk t p) = 36) = (lk t p = 36) from nIlk H (k := 36) (by omega), show (nI (lk t p) = 64) = (lk t p = 64) from nIlk H (k := 64) (by omega), show (nI (lk t p) = 99) = (lk t p = 99) from nIlk H (k := 99) (by omega), show (nI (lk t p) = 108) = (lk t p = 108) from nIlk H (k := 108) (by omega)]
  refine vif_of (fun c1 => pth (Or.inr c1)) (fun c1 => vif_of (fun c2 => pth (Or.inl c2)) (fun c2 => vif_of (fun c3 => vob_of hrd (pass (sp_readCount hG hX hL hO (by omega) hdp (by omega) (by omega) H c3))) (fun c3 => vif_of (fun c4 => vob_of hrd (pass (sp_readLength hG hX hL hO (by omega) hdp (by omega) (by omega) H c4))) (fun c4 => ?_))))
  rw [qThg_wr (fun z => z.elim c2 c1) c4 c3]
  have hwr := sp_written (l := l) (ho := ho) (er := er + 2) (d := d + 1) hG hX ht H (by omega) (by omega)
  unfold w_written at hwr
  exact hwr
/-- a comparison, behind its left side -/
theorem sp_readComparison {h0 h : mv_H} {p0 p b : Nat} {d1 : dThg} (hG : mv_ok G) (hX : mv_okX l G) (ht : tOk t) (hL : hLo G ho) (hO : LOp l G r c s t lo ho dep er dd) (he : 2 ≤ er) (hdp : dep ≤ 4) (hdd : 8 ≤ dd) (hd : dd + 8 ≤ d) (hd8 : 17 ≤ d) (T : QT G h0 h r c s t p) (P : hThg G ho h h0.1 h.1 b d1) (hbd : h.1 + 5 * p0 + 1 ≤ h0.1 + 5 * p) : mv_rq l G mX5_readComparison (d + 1) 0 (mv_in [.ref r, .ref b, .int (nI dep)] 4) [] h (QR G h0 r c s t p0 (nn (hTst G ho)) 0 0 (er + 2) (qCmp t lo d1 p)) := by
  obtain ⟨d, rfl⟩ : ∃ d', d = d' + 1 := ⟨d - 1, by omega⟩
  have hcc := T.2.2.2
  have h0h := T.2.1.2.1.1
  have hb := T.1.wf.2
  refine v_X5_readComparison hG ?_
  unfold w_X5_readComparison
  refine nwTst hG T (by omega) (fun h1 T1 S1 n1 a1 => vpu_of a1 hb (show 5 < 8 by decide) rfl ?_)
  have P1 := (hThg_fr hL).q P S1.2.1 (by omega) (Nat.le_refl _)
  have T2 : QT G h0 (mv_set h1 h.1 (cTst 4 none none none none (some b) 0 none)) r c s t p := T1.set h0h a1 (by decide) (fun fs w => by simp at w)
  have a2 : (mv_set h1 h.1 (cTst 4 none none none none (some b) 0 none)).2.2 h.1 = some (cTst 4 none none none none (some b) 0 none) := hs_s
  have n2 : (mv_set h1 h.1 (cTst 4 none none none none (some b) 0 none)).1 = h.1 + 1 := n1
  have P2 : hThg G ho (mv_set h1 h.1 (cTst 4 none none none none (some b) 0 none)) h0.1 h.1 b d1 := (hThg_fr hL).1 _ _ _ _ _ _ P1 (fun q x1 x2 => hs_n (by omega)) (str_set a1 (by decide))
  rw [show [Value.int 4, va_rf none, va_rf none, va_rf none, va_rf none, va_rf none, Value.int 0, va_rf none].set 5 (.ref b) = [Value.int 4, va_rf none, va_rf none, va_rf none, va_rf none, va_rf (some b), Value.int 0, va_rf none] from rfl]
  generalize mv_set h1 h.1 (cTst 4 none none none none (some b) 0 none) = h2 at T2 a2 n2 P2
  obtain ⟨fs2, hrd2⟩ := T2.1.rd
  refine vob_of hrd2 ((sp_readRelation hG hX T2.1 (by omega)).mono fun o h3 hq => ?_)
  have eqA : qCmp t lo d1 p = rB (qRel t p) fun r p1 => rB (qThg t lo p1) fun h p2 => .inl (cmpR r d1 h, p2) := rfl
  rw [eqA]
  cases hx : qRel t p with
  | inr w =>
    rw [hx] at hq
    obtain ⟨⟨q, ho1⟩, I, n3⟩ := hq
    have := T2.1.2.2.2.2.2
    exact Or.inr ⟨_, ho1, ⟨_, rfl⟩, I.tr T2.2.1, by omega⟩
  | inl x =>
    obtain ⟨rr, p1⟩ := x
    rw [hx] at hq
    obtain ⟨ho1, T3, n3⟩ := hq
    have hrel : rr ≤ 5 ∧ p < p1 := by
      unfold qRel at hx
      repeat' split at hx
      all_goals (first | (cases hx; omega) | cases hx)
    have a3 := T3.2.1.at T2.1.wf.1 a2 (by omega)
    have P3 := (hThg_fr hL).q P2 T3.2.1 (by omega) (by omega)
    refine Or.inl ⟨nI rr, ho1, vpu_of a3 hb (show 6 < 8 by decide) rfl ?_⟩
    have T4 : QT G h0 (mv_set h3 h.1 (cTst 4 none none none none (some b) (nI rr) none)) r c s t p1 := (T2.tr T3).set h0h a3 (by decide) (fun fs w => by simp at w)
    have a4 : (mv_set h3 h.1 (cTst 4 none none none none (some b) (nI rr) none)).2.2 h.1 = some (cTst 4 none none none none (some b) (nI rr) none) := hs_s
    have n4 : (mv_set h3 h.1 (cTst 4 none none none none (some b) (nI rr) none)).1 = h.1 + 1 := by show h3.1 = _; omega
    have P4 : hThg G ho (mv_set h3 h.1 (cTst 4 none none none none (some b) (nI rr) none)) h0.1 h.1 b d1 := (hThg_fr hL).1 _ _ _ _ _ _ P3 (fun q x1 x2 => hs_n (by omega)) (str_set a3 (by decide))
    rw [show [Value.int 4, va_rf none, va_rf none, va_rf none, va_rf none, va_rf (some b), Value.int 0, va_rf none].set 6 (.int (nI rr)) = [Value.int 4, va_rf none, va_rf none, va_rf none, va_rf none, va_rf (some b), Value.int (nI rr), va_rf none] from rfl]
    generalize mv_set h3 h.1 (cTst 4 none none none none (some b) (nI rr) none) = h4 at T4 a4 n4 P4
    obtain ⟨fs4, hrd4⟩ := T4.1.rd
    refine vob_of hrd4 ((sp_readThing hG hX ht hL hO he hdp hdd (by omega) (by omega) T4.1).mono fun o5 h5 hq => ?_)
    have eqB : (rB (.inl (rr, p1)) fun r p1 => rB (qThg t lo p1) fun h p2 => (.inl (cmpR r d1 h, p2) : (dCnd × Nat) ⊕ Nat)) = rB (qThg t lo p1) fun h p2 => .inl (cmpR rr d1 h, p2) := rfl
    rw [eqB]
    cases hy : qThg t lo p1 with
    | inr w =>
      rw [hy] at hq
      obtain ⟨⟨q, ho5⟩, I, n5⟩ := hq
      exact Or.inr ⟨_, ho5, ⟨_, rfl⟩, I.tr T4.2.1, by omega⟩
    | inl y =>
      obtain ⟨e5, p5⟩ := y
      rw [hy] at hq
      obtain ⟨b5, ho5, T5, P5, n5⟩ := hq
      have a5 := T5.2.1.at T4.1.wf.1 a4 (by omega)
      have n5' := T5.2.1.2.1.1
      have P5' := (hThg_fr hL).q P4 T5.2.1 (by omega) (by omega)
      refine Or.inl ⟨b5, ho5, vpu_of a5 hb (show 7 < 8 by decide) rfl (QR.mk ((T4.tr T5).set h0h a5 (by decide) (fun fs w => by simp at w)) (Or.inr ⟨h0h, by show h.1 < h5.1; omega, 4, none, none, none, some b, nI rr, some b5, hs_s, Or.inr (Or.inr ⟨rfl, b, b5, d1, e5, rr, rfl, rfl, ?_, ?_, hrel.1, rfl, rfl⟩)⟩) (by show h5.1 + _ + _ ≤ _; omega))⟩
      · exact (hThg_fr hL).1 _ _ _ _ _ _ P5' (fun q x1 x2 => hs_n (by omega)) (str_set a5 (by decide))
      · exact (hThg_fr hL).1 _ _ _ _ _ _ (show hThg G ho h5 (h.1 + 1) h5.1 b5 e5 by rw [← n4]; exact P5) (fun q x1 x2 => hs_n (by omega)) (str_set a5 (by decide))
/-- a path in a condition -/
theorem sp_readPathTest {h : mv_H} {p : Nat} (hG : mv_ok G) (hX : mv_okX l G) (ht : tOk t) (hL : hLo G ho) (hO : LOp l G r c s t lo ho dep er dd) (he : 2 ≤ er) (hdp : dep ≤ 4) (hdd : 8 ≤ dd) (hd : dd + 9 ≤ d) (hd8 : 18 ≤ d) (H : QS G h r c s t p) (hp : isPt t p) : mv_rq l G mX5_readPathTest (d + 1) 0 (mv_in [.ref r, .int (nI dep)] 5) [] h (QR G h r c s t p (nn (hTst G ho)) 0 0 (er + 2) (rB (qPath t lo p) fun d p1 => if lk t p1 = 61 ∨ lk t p1 = 33 ∨ lk t p1 = 60 ∨ lk t p1 = 62 then (if d.2.1 = true then qCmp t lo (pthV d.1) p1 else .inr p) else .inl (findR d.1, p1))) := by
  obtain ⟨d, rfl⟩ : ∃ d', d = d' + 1 := ⟨d - 1, by omega⟩
  have hcc := H.st.2.2.2
  obtain ⟨fs, hrd⟩ := H.rd
  have hpl : p < t.length := by rcases hp with z | z <;> exact lk_lt z (by omega)
  refine v_X5_readPathTest hG ?_
  unfold w_X5_readPathTest
  refine H.at (vob_of hrd ((sp_readPath hG hX ht hL hO he hdp hdd (by omega) (by omega) H hpl).mono fun o h1 hq => ?_))
  cases hx : qPath t lo p with
  | inr w =>
    rw [hx] at hq
    obtain ⟨⟨q, ho1⟩, I, b⟩ := hq
    exact Or.inr ⟨_, ho1, ⟨_, rfl⟩, I, b⟩
  | inl x =>
    obtain ⟨e, p1⟩ := x
    rw [hx] at hq
    obtain ⟨b, ho1, T1, P1, b1⟩ := hq
    obtain ⟨fs1, hrd1⟩ := T1.1.rd
    have eqE : (rB (.inl (e, p1)) fun (d : dPth × Bool × Nat) p1 => if lk t p1 = 61 ∨ lk t p1 = 33 ∨ lk t p1 = 60 ∨ lk t p1 = 62 then (if d.2.1 = true then qCmp t lo (pthV d.1) p1 else .inr p) else .inl (findR d.1, p1)) = (if lk t p1 = 61 ∨ lk t p1 = 33 ∨ lk t p1 = 60 ∨ lk t p1 = 62 then (if e.2.1 = true then qCmp t lo (pthV e.1) p1 else .inr p) else .inl (findR e.1, p1)) := rfl
    rw [eqE]
    refine Or.inl ⟨b, ho1, vob_of hrd1 (vI_of (sp_seesRelation hG T1.1 (by omega)) ?_)⟩
    by_cases c1 : lk t p1 = 61 ∨ lk t p1 = 33 ∨ lk t p1 = 60 ∨ lk t p1 = 62
    · rw [if_pos c1, if_pos c1]
      refine vif_n (by decide) (vob_of hrd1 ((sp_thingOfPath (x := p) (p0 := p) hG hX hL T1 P1 (by omega)).mono fun o2 h2 hq2 => ?_))
      rcases hq2 with ⟨z1, a, ho2, T2, P2, n2⟩ | ⟨z1, ⟨q, ho2⟩, I, n2⟩
      · rw [if_pos z1]
        obtain ⟨fs2, hrd2⟩ := T2.1.rd
        refine Or.inl ⟨a, ho2, vob_of hrd2 ((sp_readComparison (p0 := p) hG hX ht hL hO he hdp hdd (by omega) (by omega) T2 P2 (by omega)).mono fun o3 h3 hq3 => ?_)⟩
        cases hy : qCmp t lo (pthV e.1) p1 with
        | inr w =>
          rw [hy] at hq3
          obtain ⟨⟨q, ho3⟩, I, b⟩ := hq3
          exact Or.inr ⟨_, ho3, ⟨_, rfl⟩, I, b⟩
        | inl y =>
          rw [hy] at hq3
          obtain ⟨b, ho3, z⟩ := hq3
          exact Or.inl ⟨b, ho3, b, rfl, z⟩
      · rw [if_neg (by rw [z1]; decide)]
        have := T1.1.2.2.2.2.2
        exact Or.inr ⟨_, ho2, ⟨_, rfl⟩, I, by omega⟩
    · rw [if_neg c1, if_neg c1]
      refine vif_y rfl (nwTst hG T1 (by omega) (fun h2 T2 S2 n2 a2 => vpu_of a2 T1.1.wf.2 (show 4 < 8 by decide) rfl ?_))
      have h0h := T1.2.1.2.1.1
      have P2 := (hPth_fr hL).q P1 S2.2.1 (by omega) (Nat.le_refl _)
      refine QR.mk (T2.set h0h a2 (by decide) (fun fs w => by simp at w)) (Or.inr ⟨h0h, by show h1.1 < h2.1; omega, 3, none, none, some b, none, 0, none, hs_s, Or.inr (Or.inl ⟨rfl, b, e, rfl, ?_, rfl⟩)⟩) (by show h2.1 + _ + _ ≤ _; omega)
      exact (hPth_fr hL).1 _ _ _ _ _ _ P2 (fun q x1 x2 => hs_n (by omega)) (str_set a2 (by decide))
end QJ
