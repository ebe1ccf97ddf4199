def notL (lo : Option Lv) (p : Nat) : (dCnd × Nat) ⊕ Nat := match lo with
  | none => .inr p
  | some L => rB (L.1 (p + 1)) fun c p1 => .inl (notR c, p1)
def parL (t : List Nat) (lo : Option Lv) (p : Nat) : (dCnd × Nat) ⊕ Nat := match lo with
  | none => .inr p
  | some L => rB (qAny t L.1 (p + 1)) fun c p1 => rB (exC t 41 p1) fun _ p2 => .inl (c, p2)
theorem qTst_not {t : List Nat} {lo : Option Lv} {p : Nat} (hp : lk t p = 33) : qTst t lo p = notL lo p := by
  unfold qTst
  rw [if_pos hp]
  cases lo <;> rfl
theorem qTst_par {t : List Nat} {lo : Option Lv} {p : Nat} (hp : lk t p = 40) : qTst t lo p = parL t lo p := by
  unfold qTst
  rw [if_neg (by omega), if_pos hp]
  cases lo <;> rfl
section QK
variable {l : Launch} {G : mv_G} {d : Nat} {r c s : Nat} {t : List Nat} {lo : Option Lv} {ho : Option HV} {dep er dd : Nat}
theorem sp_readTest {h : mv_H} {p : Nat} (hG : mv_ok G) (hX : mv_okX l G) (ht : tOk t) (hL : hLo G ho) (hO : LOp l G r c s t lo ho dep er dd) (he : 2 ≤ er) (hdp : dep ≤ 4) (hdd : 8 ≤ dd) (hd : dd + 10 ≤ d) (hd8 : 19 ≤ d) (H : QS G h r c s t p) : mv_rq l G mX5_readTest (d + 1) 0 (mv_in [.ref r, .int (nI dep)] 3) [] h (QR G h r c s t p (nn (hTst G ho)) 0 0 (er + 2) (qTst t lo p)) := by
  obtain ⟨d, rfl⟩ : ∃ d', d = d' + 1 := ⟨d - 1, by omega⟩
  have hcc := H.st.2.2.2
  obtain ⟨fs, hrd⟩ := H.rd
  refine v_X5_readTest hG ?_
  unfold w_X5_readTest
  refine qLok hG H (by omega) ?_
  rw [show (nI (lk t p) = 33) = (lk t p = 33) from nIlk H (k := 33) (by omega)]
  refine vif_of (fun c1 => ?_) (fun c1 => qLok hG H (by omega) ?_)
  · rw [qTst_not c1]
    refine vob_of hrd ((sp_open (ch := 33) hG hX H (by omega) (by omega) hdp (by omega)).mono fun o h1 hq => ?_)
    rcases hO with ⟨rfl, rfl, hdep⟩ | ⟨L, HH, rfl, rfl, hdep, hLS, hNN⟩
    · rw [if_neg (by omega)] at hq
      obtain ⟨⟨q, ho1⟩, I, n1⟩ := hq
      exact Or.inr ⟨_, ho1, QR.ill H.st (Nat.le_refl _) I ⟨_, rfl⟩ (by omega)⟩
    · rw [if_pos ⟨c1, hdep⟩] at hq
      obtain ⟨ho1, T1, n1⟩ := hq
      have eqL : notL (some L) p = rB (L.1 (p + 1)) fun c p1 => .inl (notR c, p1) := rfl
      rw [eqL]
      refine Or.inl ⟨ho1, nwTst hG T1 (by omega) (fun h2 T2 S2 n2 a2 => ?_)⟩
      obtain ⟨fs2, hrd2⟩ := T2.1.rd
      rw [nI_1]
      refine vob_of hrd2 ((hLS.1 _ h2 _ (by omega) T2.1).mono fun o3 h3 hq => ?_)
      cases hx : L.1 (p + 1) with
      | inr w =>
        rw [hx] at hq
        obtain ⟨⟨q, ho3⟩, I, n3⟩ := hq
        exact Or.inr ⟨_, ho3, ⟨_, rfl⟩, I.tr T2.2.1, by omega⟩
      | inl x =>
        obtain ⟨e3, p3⟩ := x
        rw [hx] at hq
        obtain ⟨b, ho3, T3, P3, n3⟩ := hq
        have hE1 := (hL HH rfl).1
        have a3 := T3.2.1.at T2.1.wf.1 a2 (by omega)
        refine Or.inl ⟨b, ho3, vob_of a3 ((sp_tAddL (ds := []) (y := h2.1) hG hE1 hNN a3 (Or.inl ⟨rfl, rfl, rfl, by omega⟩) P3 T3.2.1.2.1.1 (T2.tr T3) (by omega)).mono fun o4 h4 hq4 => ?_)⟩
        obtain ⟨ho4, T4, ⟨n4, _⟩, fr', a4, O4, _⟩ := hq4
        obtain ⟨rfl, E4⟩ := O4.one hE1
        exact Or.inl ⟨ho4, QR.mk T4 (Or.inr ⟨by omega, mv_wf_lt T4.1.wf.1 a4, 2, some b, some b, none, none, 0, none, a4, Or.inl ⟨rfl, b, e3, HH, rfl, rfl, by rw [n4]; exact E4, rfl⟩⟩) (by omega)⟩
  · rw [show (nI (lk t p) = 40) = (lk t p = 40) from nIlk H (k := 40) (by omega)]
    refine vif_of (fun c2 => ?_) (fun c2 => vob_of hrd (vI_of (sp_seesPath hG H (by omega)) ?_))
    · rw [qTst_par c2]
      refine vob_of hrd ((sp_open (ch := 40) hG hX H (by omega) (by omega) hdp (by omega)).mono fun o h1 hq => ?_)
      rcases hO with ⟨rfl, rfl, hdep⟩ | ⟨L, HH, rfl, rfl, hdep, hLS, hNN⟩
      · rw [if_neg (by omega)] at hq
        obtain ⟨⟨q, ho1⟩, I, n1⟩ := hq
        exact Or.inr ⟨_, ho1, QR.ill H.st (Nat.le_refl _) I ⟨_, rfl⟩ (by omega)⟩
      · rw [if_pos ⟨c2, hdep⟩] at hq
        obtain ⟨ho1, T1, n1⟩ := hq
        have eqL : parL t (some L) p = rB (qAny t L.1 (p + 1)) fun c p1 => rB (exC t 41 p1) fun _ p2 => .inl (c, p2) := rfl
        rw [eqL]
        obtain ⟨fs1, hrd1⟩ := T1.1.rd
        have hE1 := (hL HH rfl).1
        rw [nI_1]
        obtain ⟨d, rfl⟩ : ∃ d', d = d' + 1 := ⟨d - 1, by omega⟩
        refine Or.inl ⟨ho1, vob_of hrd1 ((sp_readAny (E := hAll HH.1) (E0 := HH.1) (rd := qAll t L.1) (er := er + 1) (dd := dd + 1) hG hX rfl (hAll_fr hE1) (hAll_nx hE1) (fun d h p hd H => ?_) T1.1 (by omega) (by omega) (by omega)).mono fun o3 h3 hq => ?_)⟩
        · obtain ⟨d, rfl⟩ : ∃ d', d = d' + 1 := ⟨d - 1, by omega⟩
          exact sp_readAll (dd := dd) hG hX hE1 hNN hLS.1 H (by omega) (by omega) (by omega)
        · have eq1 : qAny t L.1 (p + 1) = rB (qSeq t 124 (qAll t L.1) (p + 1)) fun cs p1 => .inl (anyR cs, p1) := rfl
          rw [← eq1] at hq
          cases hx : qAny t L.1 (p + 1) with
          | inr w =>
            rw [hx] at hq
            obtain ⟨⟨q, ho3⟩, I, b3⟩ := hq
            exact Or.inr ⟨_, ho3, ⟨_, rfl⟩, I.tr T1.2.1, by omega⟩
          | inl x =>
            obtain ⟨cnd, p3⟩ := x
            rw [hx] at hq
            obtain ⟨a, ho3, T3, P3, b3⟩ := hq
            refine Or.inl ⟨a, ho3, qExp (ch := 41) hG hX T3.1 (by omega) (by omega) (by omega) (fun c4 h4 T4 n4 => ?_) (fun c4 q h4 I n4 => ?_)⟩
            · show QR G h r c s t p (nn (hTst G (some HH))) 0 0 (er + 2) (rB (exC t 41 p3) fun _ p2 => .inl (cnd, p2)) _ _
              have eq2 : exC t 41 p3 = .inl ((), p3 + 1) := by unfold exC; rw [if_pos c4]
              rw [eq2]
              refine QR.mk (T1.tr (T3.tr T4)) (Or.inl ⟨HH, rfl, ?_⟩) (by omega)
              rw [n4, ← n1]
              exact (hAny_fr hE1).q P3 T4.2.1 (by omega) (Nat.le_refl _)
            · show QR G h r c s t p (nn (hTst G (some HH))) 0 0 (er + 2) (rB (exC t 41 p3) fun _ p2 => .inl (cnd, p2)) _ _
              have eq2 : exC t 41 p3 = .inr p3 := by unfold exC; rw [if_neg c4]
              rw [eq2]
              have := T3.1.2.2.2.2.2
              exact ⟨⟨_, rfl⟩, I.tr (T1.tr T3).2.1, by omega⟩
    · by_cases c3 : isPt t p
      · have eqA : qTst t lo p = rB (qPath t lo p) fun d p1 => if lk t p1 = 61 ∨ lk t p1 = 33 ∨ lk t p1 = 60 ∨ lk t p1 = 62 then (if d.2.1 = true then qCmp t lo (pthV d.1) p1 else .inr p) else .inl (findR d.1, p1) := by
          unfold qTst
          rw [if_neg c1, if_neg c2, if_pos c3]
        rw [if_pos c3]
        refine vif_n (by decide) (vob_of hrd ((sp_readPathTest hG hX ht hL hO he hdp hdd (by omega) (by omega) H c3).mono fun o1 h1 hq => ?_))
        rw [← eqA] at hq
        cases hy : qTst t lo p with
        | inr w =>
          rw [hy] at hq
          obtain ⟨⟨q, ho3⟩, I, b⟩ := hq
          exact Or.inr ⟨_, ho3, ⟨_, rfl⟩, I, b⟩
        | inl y =>
          rw [hy] at hq
          obtain ⟨b, ho3, z⟩ := hq
          exact Or.inl ⟨b, ho3, b, rfl, z⟩
      · have eqA : qTst t lo p = rB (qThg t lo p) fun h p1 => qCmp t lo h p1 := by
          unfold qTst
          rw [if_neg c1, if_neg c2, if_neg c3]
        rw [if_neg c3, eqA]
        refine vif_y rfl (vob_of hrd ((sp_readThing hG hX ht hL hO he hdp hdd (by omega) (by omega) H).mono fun o1 h1 hq => ?_))
        cases hy : qThg t lo p with
        | inr w =>
          rw [hy] at hq
          obtain ⟨⟨q, ho3⟩, I, b⟩ := hq
          exact Or.inr ⟨_, ho3, ⟨_, rfl⟩, I, b⟩
        | inl y =>
          obtain ⟨e1, p1⟩ := y
          rw [hy] at hq
          obtain ⟨b, ho3, T1, P1, n1⟩ := hq
          obtain ⟨fs1, hrd1⟩ := T1.1.rd
          refine Or.inl ⟨b, ho3, vob_of hrd1 ((sp_readComparison (p0 := p) hG hX ht hL hO he hdp hdd (by omega) (by omega) T1 P1 (by omega)).mono fun o2 h2 hq2 => ?_)⟩
          show vB _ _ _ _
          have eqB : (rB (.inl (e1, p1)) fun h p1 => qCmp t lo h p1) = qCmp t lo e1 p1 := rfl
          rw [eqB]
          cases hz : qCmp t lo e1 p1 with
          | inr w =>
            rw [hz] at hq2
            obtain ⟨⟨q, ho4⟩, I, b⟩ := hq2
            exact Or.inr ⟨_, ho4, ⟨_, rfl⟩, I, b⟩
          | inl z =>
            rw [hz] at hq2
            obtain ⟨b, ho4, z⟩ := hq2
            exact Or.inl ⟨b, ho4, b, rfl, z⟩
/-- every level is read -/
theorem sp_lv (hG : mv_ok G) (hX : mv_okX l G) (ht : tOk t) : ∀ n, n ≤ 4 → LSp l G r c s t (qLv t n) (hLv G n) (4 - n) (5 + 2 * n) (20 + 11 * n) ∧ hNx 11 3 (hLv G n).1 := by
  intro n
  induction n with
  | zero =>
    intro _
    have hL : hLo G none := fun L z => by cases z
    have hO : LOp l G r c s t none none 4 3 8 := Or.inl ⟨rfl, rfl, rfl⟩
    refine ⟨⟨fun d h p hd H => ?_, fun d h p hd H hp => ?_, fun d h p hd H => ?_⟩, hTst_nx hL⟩
    · obtain ⟨d, rfl⟩ : ∃ d', d = d' + 1 := ⟨d - 1, by omega⟩
      exact sp_readTest hG hX ht hL hO (by omega) (by omega) (by omega) (by omega) (by omega) H
    · obtain ⟨d, rfl⟩ : ∃ d', d = d' + 1 := ⟨d - 1, by omega⟩
      exact sp_readPath hG hX ht hL hO (by omega) (by omega) (by omega) (by omega) (by omega) H (by rcases hp with z | z <;> exact lk_lt z (by omega))
    · obtain ⟨d, rfl⟩ : ∃ d', d = d' + 1 := ⟨d - 1, by omega⟩
      exact sp_readThing hG hX ht hL hO (by omega) (by omega) (by omega) (by omega) (by omega) H
  | succ n ih =>
    intro hn
    obtain ⟨ih1, ih2⟩ := ih (by omega)
    have hL : hLo G (some (hLv G n)) := fun L z => by cases z; exact hLv_fr n
    have hO : LOp l G r c s t (some (qLv t n)) (some (hLv G n)) (4 - (n + 1)) (5 + 2 * n) (20 + 11 * n) := Or.inr ⟨qLv t n, hLv G n, rfl, rfl, by omega, by rw [show 4 - (n + 1) + 1 = 4 - n by omega]; exact ih1, ih2⟩
    rw [show 5 + 2 * (n + 1) = 5 + 2 * n + 2 by omega]
    refine ⟨⟨fun d h p hd H => ?_, fun d h p hd H hp => ?_, fun d h p hd H => ?_⟩, hTst_nx hL⟩
    · obtain ⟨d, rfl⟩ : ∃ d', d = d' + 1 := ⟨d - 1, by omega⟩
      exact sp_readTest hG hX ht hL hO (by omega) (by omega) (by omega) (by omega) (by omega) H
    · obtain ⟨d, rfl⟩ : ∃ d', d = d' + 1 := ⟨d - 1, by omega⟩
      exact sp_readPath hG hX ht hL hO (by omega) (by omega) (by omega) (by omega) (by omega) H (by rcases hp with z | z <;> exact lk_lt z (by omega))
    · obtain ⟨d, rfl⟩ : ∃ d', d = d' + 1 := ⟨d - 1, by omega⟩
      exact sp_readThing hG hX ht hL hO (by omega) (by omega) (by omega) (by omega) (by omega) H
end QK
