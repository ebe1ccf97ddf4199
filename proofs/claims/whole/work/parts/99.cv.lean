def lenL (t : List Nat) (lo : Option Lv) (p1 : Nat) : (dThg × Nat) ⊕ Nat := match lo with
  | none => .inr p1
  | some L => rB (L.2.2 (p1 + 1)) fun h p2 => rB (exC t 41 p2) fun _ p3 => .inl (lenV h, p3)
def cntL (t : List Nat) (lo : Option Lv) (p1 : Nat) : (dThg × Nat) ⊕ Nat := match lo with
  | none => .inr p1
  | some L => if isPt t (p1 + 1) then rB (L.2.1 (p1 + 1)) fun d p2 => rB (exC t 41 p2) fun _ p3 => .inl (cntV d.1, p3) else .inr (p1 + 1)
theorem qThg_len {t : List Nat} {lo : Option Lv} {p : Nat} (hp : lk t p = 108) : qThg t lo p = rB (exWd t tLen p) fun _ p1 => if lk t p1 = 40 then lenL t lo p1 else .inr p1 := by
  unfold qThg
  rw [if_neg (by unfold isPt; omega), if_pos hp]
  cases lo <;> rfl
theorem qThg_cnt {t : List Nat} {lo : Option Lv} {p : Nat} (hp : lk t p = 99) : qThg t lo p = rB (exWd t tCnt p) fun _ p1 => if lk t p1 = 40 then cntL t lo p1 else .inr p1 := by
  unfold qThg
  rw [if_neg (by unfold isPt; omega), if_neg (by omega), if_pos hp]
  cases lo <;> rfl
section QI
variable {l : Launch} {G : mv_G} {d : Nat} {r c s : Nat} {t : List Nat} {lo : Option Lv} {ho : Option HV} {dep er dd : Nat}
theorem qWord {h : mv_H} {p b : Nat} {v : List Nat} {X : String × Nat → mv_H → Prop} {K : mv_H → Prop} (hG : mv_ok G) (hX : mv_okX l G) (H : QS G h r c s t p) (hv : mv_str G h b v) (hv0 : ∀ j, j < v.length → lk v j ≠ 0) (hd : 9 ≤ d) (k1 : exWd t v p = .inl ((), p + v.length) → ∀ h1, QT G h h1 r c s t (p + v.length) → h1.1 = h.1 → K h1) (k0 : ∀ w, exWd t v p = .inr w → ∀ q h1, IQ G h h1 c s w → h1.1 = h.1 + 1 → X (xIA, q) h1) : mv_rq l G mX0_expectWord d 0 (mv_in [.ref c, .ref b] 3) [] h (vU X K) := by
  obtain ⟨⟨cv, a1⟩, a2, a3, a4, a5, a6⟩ := id H
  refine (sp_expectWord hG hX a2 a3 hv hv0 a6 a5.2 hd).mono fun o h1 hq => ?_
  rcases hq with ⟨p', e, hp, ho1, hh⟩ | ⟨p', e, ho1, hh⟩
  · have hl := exW_len hv0 e
    refine Or.inl ⟨ho1, k1 (by unfold exWd; rw [e, hl]) h1 ?_ (by rw [← hh]; rfl)⟩
    rw [← hh, hl]
    exact H.st.cur hp
  · refine Or.inr ⟨_, ho1, k0 p' (by unfold exWd; rw [e]) _ h1 ?_ (by rw [← hh]; rfl)⟩
    rw [← hh]
    exact H.st.ill
theorem QR.mk {h h1 : mv_H} {p b1 b2 e1 a p' : Nat} {β : Type} {P : HP β} {x : β} (T : QT G h h1 r c s t p') (hP : P h1 h.1 h1.1 a x) (hb : h1.1 + 5 * p + b1 ≤ h.1 + 5 * p' + b2) : QR G h r c s t p P b1 b2 e1 (.inl (x, p')) (.inl (some (.ref a))) h1 := ⟨a, rfl, T, hP, hb⟩
/-- a new Thing is made -/
theorem nwThg {kd : Int32} {h0 h : mv_H} {p : Nat} {X : String × Nat → mv_H → Prop} {K : Nat → mv_H → Prop} (hG : mv_ok G) (T : QT G h0 h r c s t p) (hd : 2 ≤ d) (k : ∀ h1, QT G h0 h1 r c s t p → QT G h h1 r c s t p → h1.1 = h.1 + 2 → h1.2.2 h.1 = some (cThg kd none none (h.1 + 1)) → (∃ z, h1.2.2 (h.1 + 1) = some (valE 0 0 z (-1) z (-1) 0 0 0 0)) → K h.1 h1) : vnw h 4 (.inr (12, [.int 0, .null, .null, .null])) fun a h0 => mv_rq l G mX10_init d 0 (mv_in [.ref a, .int kd] 2) [] h0 (vU X (fun h1 => K a h1)) := by
  obtain ⟨hw, hb⟩ := T.1.wf
  obtain ⟨z, z1, _⟩ := T.1.2.2.2.1.2.2.2.1
  obtain ⟨d, rfl⟩ : ∃ d', d = d' + 2 := ⟨d - 2, by omega⟩
  refine vnw_of (vU_of (sp_hInit hG hw hb z1) ?_)
  refine k _ ((T.new (by omega) (fun fs w => by simp at w)).new (by omega) (fun fs w => by simp at w)) ((T.1.st.new (by omega) (fun fs w => by simp at w)).new (by omega) (fun fs w => by simp at w)) rfl ?_ ⟨z, hn_s (h := mv_new h 4 (cThg kd none none (h.1 + 1)))⟩
  rw [hn_n (show h.1 ≠ h.1 + 1 by omega)]; exact hn_s
/-- a new Test is made -/
theorem nwTst {kd : Int32} {h0 h : mv_H} {p : Nat} {X : String × Nat → mv_H → Prop} {K : Nat → mv_H → Prop} (hG : mv_ok G) (T : QT G h0 h r c s t p) (hd : 1 ≤ d) (k : ∀ h1, QT G h0 h1 r c s t p → QT G h h1 r c s t p → h1.1 = h.1 + 1 → h1.2.2 h.1 = some (cTst kd none none none none none 0 none) → K h.1 h1) : vnw h 8 (.inr (11, [.int 0, .null, .null, .null, .null, .null, .int 0, .null])) fun a h0 => mv_rq l G mX9_init d 0 (mv_in [.ref a, .int kd] 2) [] h0 (vU X (fun h1 => K a h1)) := by
  obtain ⟨hw, hb⟩ := T.1.wf
  obtain ⟨d, rfl⟩ : ∃ d', d = d' + 1 := ⟨d - 1, by omega⟩
  refine vnw_of (vU_of (sp_tInit hG hn_s hb) ?_)
  rw [mv_set_new]
  exact k _ (T.new (by omega) (fun fs w => by simp at w)) (T.1.st.new (by omega) (fun fs w => by simp at w)) rfl hn_s
theorem sp_readLength {h : mv_H} {p : Nat} (hG : mv_ok G) (hX : mv_okX l G) (hL : hLo G ho) (hO : LOp l G r c s t lo ho dep er dd) (he : 1 ≤ er) (hdp : dep ≤ 4) (hd : dd ≤ d) (hd8 : 10 ≤ d) (H : QS G h r c s t p) (hp : lk t p = 108) : mv_rq l G mX5_readLength (d + 1) 0 (mv_in [.ref r, .int (nI dep)] 3) [] h (QR G h r c s t p (hThg G ho) 1 0 (er + 2) (qThg t lo p)) := by
  obtain ⟨hw, hb⟩ := H.wf
  have hcc := H.st.2.2.2
  obtain ⟨d, rfl⟩ : ∃ d', d = d' + 1 := ⟨d - 1, by omega⟩
  rw [qThg_len hp]
  obtain ⟨⟨cv, a1⟩, a2, a3, a4, a5, a6⟩ := id H
  obtain ⟨z, z1, z2⟩ := a4.2.2.2.2.1
  refine v_X5_readLength hG ?_
  unfold w_X5_readLength
  refine vgb_of a1 rfl (vst_of z1 (vob_of a2 (qWord hG hX H z2 (by decide) (by omega) (fun e h1 T1 n1 => ?_) (fun w e q h1 I n1 => ?_))))
  · have eqE : (rB (exWd t tLen p) fun _ p1 => if lk t p1 = 40 then lenL t lo p1 else .inr p1) = (if lk t (p + tLen.length) = 40 then lenL t lo (p + tLen.length) else .inr (p + tLen.length)) := by
      rw [e]; rfl
    rw [eqE]
    have hl6 : tLen.length = 6 := rfl
    obtain ⟨fs, hrd⟩ := T1.1.rd
    refine vob_of hrd ((sp_open (ch := 40) hG hX T1.1 (by omega) (by omega) hdp (by omega)).mono fun o h2 hq => ?_)
    by_cases c1 : lk t (p + tLen.length) = 40
    · rw [if_pos c1]
      rcases hO with ⟨rfl, rfl, hdep⟩ | ⟨L, HH, rfl, rfl, hdep, hLS, hNN⟩
      · rw [if_neg (by omega)] at hq
        obtain ⟨⟨q, ho1⟩, I, n2⟩ := hq
        exact Or.inr ⟨_, ho1, QR.ill T1 (by omega) I ⟨_, rfl⟩ (by omega)⟩
      · rw [if_pos ⟨c1, hdep⟩] at hq
        obtain ⟨ho1, T2, n2⟩ := hq
        have T12 := T1.tr T2
        have eqL : lenL t (some L) (p + tLen.length) = rB (L.2.2 (p + tLen.length + 1)) fun h p2 => rB (exC t 41 p2) fun _ p3 => .inl (lenV h, p3) := rfl
        rw [eqL]
        refine Or.inl ⟨ho1, nwThg hG T12 (by omega) (fun h3 T3 S3 n3 a3 ⟨z, b3⟩ => ?_)⟩
        obtain ⟨fs3, hrd3⟩ := T3.1.rd
        rw [nI_1]
        refine vob_of hrd3 ((hLS.2.2 _ h3 _ (by omega) T3.1).mono fun o4 h4 hq => ?_)
        cases hx : L.2.2 (p + tLen.length + 1) with
        | inr w =>
          rw [hx] at hq
          obtain ⟨⟨q, ho4⟩, I, n4⟩ := hq
          exact Or.inr ⟨_, ho4, ⟨_, rfl⟩, I.tr T3.2.1, by omega⟩
        | inl x =>
          obtain ⟨e4, p4⟩ := x
          rw [hx] at hq
          obtain ⟨b, ho4, T4, P4, n4⟩ := hq
          have a4' := T4.2.1.at T3.1.wf.1 a3 (by omega)
          have b4' := T4.2.1.at T3.1.wf.1 b3 (by omega)
          have n4' := T4.2.1.2.1.1
          refine Or.inl ⟨b, ho4, vpu_of a4' T2.1.wf.2 (show 2 < 4 by decide) rfl ?_⟩
          have T5 : QT G h (mv_set h4 h2.1 (cThg 2 none (some b) (h2.1 + 1))) r c s t p4 := (T3.tr T4).set (by omega) a4' (by decide) (fun fs w => by simp at w)
          have a5 : (mv_set h4 h2.1 (cThg 2 none (some b) (h2.1 + 1))).2.2 h2.1 = some (cThg 2 none (some b) (h2.1 + 1)) := hs_s
          have b5 : (mv_set h4 h2.1 (cThg 2 none (some b) (h2.1 + 1))).2.2 (h2.1 + 1) = some (valE 0 0 z (-1) z (-1) 0 0 0 0) := by rw [hs_n (by omega)]; exact b4'
          have n5 : (mv_set h4 h2.1 (cThg 2 none (some b) (h2.1 + 1))).1 = h4.1 := rfl
          have P5 : HH.2.2 (mv_set h4 h2.1 (cThg 2 none (some b) (h2.1 + 1))) (h2.1 + 2) h4.1 b e4 := (hL HH rfl).2.2.1 _ _ _ _ _ _ (by rw [← n3]; exact P4) (fun q x1 x2 => hs_n (by omega)) (str_set a4' (by decide))
          rw [show [Value.int 2, va_rf none, va_rf none, Value.ref (h2.1 + 1)].set 2 (.ref b) = [Value.int 2, va_rf none, va_rf (some b), Value.ref (h2.1 + 1)] from rfl]
          generalize mv_set h4 h2.1 (cThg 2 none (some b) (h2.1 + 1)) = h5 at T5 a5 b5 n5 P5
          refine qExp (ch := 41) hG hX T5.1 (by omega) (by omega) (by omega) (fun c2 h6 T6 n6 => ?_) (fun c2 q h6 I n6 => ?_)
          · have eq1 : exC t 41 p4 = .inl ((), p4 + 1) := by unfold exC; rw [if_pos c2]
            show QR G h r c s t p (hThg G (some HH)) 1 0 (er + 2) (rB (exC t 41 p4) fun _ p3 => .inl (lenV e4, p3)) _ _
            rw [eq1]
            refine QR.mk (T5.tr T6) ⟨by omega, by omega, 2, none, some b, T6.2.1.at T5.1.wf.1 a5 (by omega), 0, 0, z, -1, z, -1, 0, 0, 0, 0, T6.2.1.at T5.1.wf.1 b5 (by omega), Or.inr (Or.inr (Or.inl ⟨rfl, b, e4, HH, rfl, rfl, ?_, rfl⟩))⟩ (by omega)
            rw [n6, n5]
            exact (hL HH rfl).2.2.q P5 T6.2.1 (by omega) (by omega)
          · have eq1 : exC t 41 p4 = .inr p4 := by unfold exC; rw [if_neg c2]
            show QR G h r c s t p (hThg G (some HH)) 1 0 (er + 2) (rB (exC t 41 p4) fun _ p3 => .inl (lenV e4, p3)) _ _
            rw [eq1]
            have := T5.1.2.2.2.2.2
            exact ⟨⟨_, rfl⟩, I.tr T5.2.1, by omega⟩
    · rw [if_neg c1]
      rw [if_neg (fun z => c1 z.1)] at hq
      obtain ⟨⟨q, ho1⟩, I, n2⟩ := hq
      exact Or.inr ⟨_, ho1, QR.ill T1 (by omega) I ⟨_, rfl⟩ (by omega)⟩
  · rw [e]
    exact QR.ill H.st (Nat.le_refl _) I ⟨_, rfl⟩ (by omega)
theorem sp_readCount {h : mv_H} {p : Nat} (hG : mv_ok G) (hX : mv_okX l G) (hL : hLo G ho) (hO : LOp l G r c s t lo ho dep er dd) (he : 1 ≤ er) (hdp : dep ≤ 4) (hd : dd ≤ d) (hd8 : 10 ≤ d) (H : QS G h r c s t p) (hp : lk t p = 99) : mv_rq l G mX5_readCount (d + 1) 0 (mv_in [.ref r, .int (nI dep)] 3) [] h (QR G h r c s t p (hThg G ho) 1 0 (er + 2) (qThg t lo p)) := by
  obtain ⟨hw, hb⟩ := H.wf
  have hcc := H.st.2.2.2
  obtain ⟨d, rfl⟩ : ∃ d', d = d' + 1 := ⟨d - 1, by omega⟩
  rw [qThg_cnt hp]
  obtain ⟨⟨cv, a1⟩, a2, a3, a4, a5, a6⟩ := id H
  obtain ⟨z, z1, z2⟩ := a4.2.2.2.2.2
  refine v_X5_readCount hG ?_
  unfold w_X5_readCount
  refine vgb_of a1 rfl (vst_of z1 (vob_of a2 (qWord hG hX H z2 (by decide) (by omega) (fun e h1 T1 n1 => ?_) (fun w e q h1 I n1 => ?_))))
  · have eqE : (rB (exWd t tCnt p) fun _ p1 => if lk t p1 = 40 then cntL t lo p1 else .inr p1) = (if lk t (p + tCnt.length) = 40 then cntL t lo (p + tCnt.length) else .inr (p + tCnt.length)) := by
      rw [e]; rfl
    rw [eqE]
    have hl6 : tCnt.length = 5 := rfl
    obtain ⟨fs, hrd⟩ := T1.1.rd
    refine vob_of hrd ((sp_open (ch := 40) hG hX T1.1 (by omega) (by omega) hdp (by omega)).mono fun o h2 hq => ?_)
    by_cases c1 : lk t (p + tCnt.length) = 40
    · rw [if_pos c1]
      rcases hO with ⟨rfl, rfl, hdep⟩ | ⟨L, HH, rfl, rfl, hdep, hLS, hNN⟩
      · rw [if_neg (by omega)] at hq
        obtain ⟨⟨q, ho1⟩, I, n2⟩ := hq
        exact Or.inr ⟨_, ho1, QR.ill T1 (by omega) I ⟨_, rfl⟩ (by omega)⟩
      · rw [if_pos ⟨c1, hdep⟩] at hq
        obtain ⟨ho1, T2, n2⟩ := hq
        have T12 := T1.tr T2
        refine Or.inl ⟨ho1, ?_⟩
        obtain ⟨⟨cv2, g1⟩, g2, g3, g4, g5, g6⟩ := id T2.1
        refine vob_of g1 (vI_of (sp_seesPath hG T2.1 (by omega)) ?_)
        have eqL : cntL t (some L) (p + tCnt.length) = if isPt t (p + tCnt.length + 1) then rB (L.2.1 (p + tCnt.length + 1)) fun d p2 => rB (exC t 41 p2) fun _ p3 => .inl (cntV d.1, p3) else .inr (p + tCnt.length + 1) := rfl
        rw [eqL]
        by_cases c3 : isPt t (p + tCnt.length + 1)
        · rw [if_pos c3, if_pos c3]
          refine vif_n (by decide) (v_X5_readCount_37 hG ?_)
          unfold w_X5_readCount_37
          refine nwThg hG T12 (by omega) (fun h3 T3 S3 n3 a3 ⟨z, b3⟩ => ?_)
          obtain ⟨fs3, hrd3⟩ := T3.1.rd
          rw [nI_1]
          refine vob_of hrd3 ((hLS.2.1 _ h3 _ (by omega) T3.1 c3).mono fun o4 h4 hq => ?_)
          cases hx : L.2.1 (p + tCnt.length + 1) with
          | inr w =>
            rw [hx] at hq
            obtain ⟨⟨q, ho4⟩, I, n4⟩ := hq
            exact Or.inr ⟨_, ho4, ⟨_, rfl⟩, I.tr T3.2.1, by omega⟩
          | inl x =>
            obtain ⟨e4, p4⟩ := x
            rw [hx] at hq
            obtain ⟨b, ho4, T4, P4, n4⟩ := hq
            have a4' := T4.2.1.at T3.1.wf.1 a3 (by omega)
            have b4' := T4.2.1.at T3.1.wf.1 b3 (by omega)
            have n4' := T4.2.1.2.1.1
            refine Or.inl ⟨b, ho4, vpu_of a4' T2.1.wf.2 (show 1 < 4 by decide) rfl ?_⟩
            have T5 : QT G h (mv_set h4 h2.1 (cThg 3 (some b) none (h2.1 + 1))) r c s t p4 := (T3.tr T4).set (by omega) a4' (by decide) (fun fs w => by simp at w)
            have a5 : (mv_set h4 h2.1 (cThg 3 (some b) none (h2.1 + 1))).2.2 h2.1 = some (cThg 3 (some b) none (h2.1 + 1)) := hs_s
            have b5 : (mv_set h4 h2.1 (cThg 3 (some b) none (h2.1 + 1))).2.2 (h2.1 + 1) = some (valE 0 0 z (-1) z (-1) 0 0 0 0) := by rw [hs_n (by omega)]; exact b4'
            have n5 : (mv_set h4 h2.1 (cThg 3 (some b) none (h2.1 + 1))).1 = h4.1 := rfl
            have P5 : HH.2.1 (mv_set h4 h2.1 (cThg 3 (some b) none (h2.1 + 1))) (h2.1 + 2) h4.1 b e4 := (hL HH rfl).2.1.1 _ _ _ _ _ _ (by rw [← n3]; exact P4) (fun q x1 x2 => hs_n (by omega)) (str_set a4' (by decide))
            rw [show [Value.int 3, va_rf none, va_rf none, Value.ref (h2.1 + 1)].set 1 (.ref b) = [Value.int 3, va_rf (some b), va_rf none, Value.ref (h2.1 + 1)] from rfl]
            generalize mv_set h4 h2.1 (cThg 3 (some b) none (h2.1 + 1)) = h5 at T5 a5 b5 n5 P5
            refine qExp (ch := 41) hG hX T5.1 (by omega) (by omega) (by omega) (fun c2 h6 T6 n6 => ?_) (fun c2 q h6 I n6 => ?_)
            · have eq1 : exC t 41 p4 = .inl ((), p4 + 1) := by unfold exC; rw [if_pos c2]
              show QR G h r c s t p (hThg G (some HH)) 1 0 (er + 2) (rB (exC t 41 p4) fun _ p3 => .inl (cntV e4.1, p3)) _ _
              rw [eq1]
              refine QR.mk (T5.tr T6) ⟨by omega, by omega, 3, some b, none, T6.2.1.at T5.1.wf.1 a5 (by omega), 0, 0, z, -1, z, -1, 0, 0, 0, 0, T6.2.1.at T5.1.wf.1 b5 (by omega), Or.inr (Or.inr (Or.inr ⟨rfl, b, e4, HH, rfl, rfl, ?_, rfl⟩))⟩ (by omega)
              rw [n6, n5]
              exact (hL HH rfl).2.1.q P5 T6.2.1 (by omega) (by omega)
            · have eq1 : exC t 41 p4 = .inr p4 := by unfold exC; rw [if_neg c2]
              show QR G h r c s t p (hThg G (some HH)) 1 0 (er + 2) (rB (exC t 41 p4) fun _ p3 => .inl (cntV e4.1, p3)) _ _
              rw [eq1]
              have := T5.1.2.2.2.2.2
              exact ⟨⟨_, rfl⟩, I.tr T5.2.1, by omega⟩
        · rw [if_neg c3, if_neg c3]
          refine vif_y rfl (vgb_of g1 rfl (vgb_of g1 rfl (vgi_of g2 rfl (vob_of g2 (qRef (w := p + tCnt.length + 1) hG hX T2.1 (by omega) (fun q h3 I n3 => ?_))))))
          exact QR.ill T12 (by omega) I ⟨_, rfl⟩ (by omega)
    · rw [if_neg c1]
      rw [if_neg (fun z => c1 z.1)] at hq
      obtain ⟨⟨q, ho1⟩, I, n2⟩ := hq
      exact Or.inr ⟨_, ho1, QR.ill T1 (by omega) I ⟨_, rfl⟩ (by omega)⟩
  · rw [e]
    exact QR.ill H.st (Nat.le_refl _) I ⟨_, rfl⟩ (by omega)
end QI
