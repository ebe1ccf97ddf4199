/-! the cursor's calls, from the reader of queries -/
theorem hFr.q {G : mv_G} {β : Type} {P : HP β} (hF : hFr G P) {h h1 : mv_H} {x y a c : Nat} {d : β} (H : P h x y a d) (R : qst G h h1 c) (hc : c < x) (hy : y ≤ h.1) : P h1 x y a d := hF.1 _ _ _ _ _ _ H (fun b x1 x2 => R.2.2.1 b (by omega) (by omega)) (fun s t hs => R.2.2.2.s hs)
theorem hOL.q {G : mv_G} {α : Type} {E : HE α} (hF : hFr G E) {h h1 : mv_H} {x y c : Nat} {ds : List α} {fr la : Option Nat} (H : hOL E h ds x y fr la) (R : qst G h h1 c) (hc : c < x) (hy : y ≤ h.1) : hOL E h1 ds x y fr la := H.fr hF (fun b x1 x2 => R.2.2.1 b (by omega) (by omega)) (fun s t hs => R.2.2.2.s hs)
theorem qst.at {G : mv_G} {h h1 : mv_H} {c a : Nat} {e : va_E} (R : qst G h h1 c) (hw : mv_wf h) (ha : h.2.2 a = some e) (hc : a ≠ c) : h1.2.2 a = some e := by
  rw [R.2.2.1 a (mv_wf_lt hw ha) hc]; exact ha
section QC
variable {l : Launch} {G : mv_G} {d : Nat} {h : mv_H} {r c s : Nat} {t : List Nat} {p : Nat}
theorem qLok {X : String × Nat → mv_H → Prop} {K : Int32 → mv_H → Prop} (hG : mv_ok G) (H : QS G h r c s t p) (hd : 5 ≤ d) (k : K (nI (lk t p)) h) : vgb h r 7 0 fun x => vob h x 2 (mv_rq l G mX0_look d 0 (mv_in [.ref x] 1) [] h (vI X K)) := by
  obtain ⟨⟨cv, a1⟩, a2, a3, a4, a5, a6⟩ := H
  exact vgb_of a1 rfl (vob_of a2 (vI_of (sp_look hG a2 a3 a6 hd) k))
theorem qPas {ch : Nat} {X : String × Nat → mv_H → Prop} {K : Int32 → mv_H → Prop} (hG : mv_ok G) (H : QS G h r c s t p) (h0 : ch ≠ 0) (h9 : ch < 128) (hd : 6 ≤ d) (k1 : lk t p = ch → ∀ h1, QT G h h1 r c s t (p + 1) → h1.1 = h.1 → K 1 h1) (k0 : lk t p ≠ ch → K 0 h) : vgb h r 7 0 fun x => vob h x 2 (mv_rq l G mX0_passes d 0 (mv_in [.ref x, .int (nI ch)] 2) [] h (vI X K)) := by
  obtain ⟨⟨cv, a1⟩, a2, a3, a4, a5, a6⟩ := id H
  refine vgb_of a1 rfl (vob_of a2 ((sp_passes hG a2 a3 a6 h0 h9 a5.2 hd).mono fun o h1 hq => ?_))
  rcases hq with ⟨e, ho, hh⟩ | ⟨e, ho, hh⟩
  · refine Or.inl ⟨1, ho, k1 e h1 ?_ (by rw [← hh]; rfl)⟩
    rw [← hh]
    exact H.st.cur (lk_lt e h0)
  · rw [← hh]
    exact Or.inl ⟨0, ho, k0 e⟩
theorem qSkp {X : String × Nat → mv_H → Prop} {K : mv_H → Prop} (hG : mv_ok G) (H : QS G h r c s t p) (hp : p < t.length) (hd : 5 ≤ d) (k1 : ∀ h1, QT G h h1 r c s t (p + 1) → h1.1 = h.1 → K h1) : vgb h r 7 0 fun x => vob h x 2 (mv_rq l G mX0_skip d 0 (mv_in [.ref x] 1) [] h (vU X K)) := by
  obtain ⟨⟨cv, a1⟩, a2, a3, a4, a5, a6⟩ := id H
  exact vgb_of a1 rfl (vob_of a2 (vU_of (sp_skip hG a2 a3 hp a5.2 hd) (k1 _ (H.st.cur hp) rfl)))
theorem qExp {ch : Nat} {X : String × Nat → mv_H → Prop} {K : mv_H → Prop} (hG : mv_ok G) (hX : mv_okX l G) (H : QS G h r c s t p) (h0 : ch ≠ 0) (h9 : ch < 128) (hd : 8 ≤ d) (k1 : lk t p = ch → ∀ h1, QT G h h1 r c s t (p + 1) → h1.1 = h.1 → K h1) (k0 : lk t p ≠ ch → ∀ q h1, IQ G h h1 c s p → h1.1 = h.1 + 1 → X (xIA, q) h1) : vgb h r 7 0 fun x => vob h x 2 (mv_rq l G mX0_expect d 0 (mv_in [.ref x, .int (nI ch)] 2) [] h (vU X K)) := by
  obtain ⟨⟨cv, a1⟩, a2, a3, a4, a5, a6⟩ := id H
  refine vgb_of a1 rfl (vob_of a2 ((sp_expect hG hX a2 a3 a6 h0 h9 a5.2 hd).mono fun o h1 hq => ?_))
  rcases hq with ⟨e, ho, hh⟩ | ⟨e, ho, hh⟩
  · refine Or.inl ⟨ho, k1 e h1 ?_ (by rw [← hh]; rfl)⟩
    rw [← hh]
    exact H.st.cur (lk_lt e h0)
  · refine Or.inr ⟨_, ho, k0 e _ h1 ?_ (by rw [← hh]; rfl)⟩
    rw [← hh]
    exact H.st.ill
theorem qRef {w : Nat} {X : String × Nat → mv_H → Prop} {K : mv_H → Prop} (hG : mv_ok G) (hX : mv_okX l G) (H : QS G h r c s t p) (hd : 7 ≤ d) (k0 : ∀ q h1, IQ G h h1 c s w → h1.1 = h.1 + 1 → X (xIA, q) h1) : mv_rq l G mX0_refuse d 0 (mv_in [.ref c, .int (nI w)] 2) [] h (vU X K) := by
  obtain ⟨⟨cv, a1⟩, a2, a3, a4, a5, a6⟩ := id H
  refine (sp_refuse hG hX a2 a5.2 hd).mono fun o h1 hq => ?_
  obtain ⟨ho, hh⟩ := hq
  refine Or.inr ⟨_, ho, k0 _ h1 ?_ (by rw [← hh]; rfl)⟩
  rw [← hh]
  exact H.st.ill
theorem qNumb {X : String × Nat → mv_H → Prop} {K : Int32 → mv_H → Prop} (hG : mv_ok G) (hX : mv_okX l G) (H : QS G h r c s t p) (hd : 9 ≤ d) (k1 : ∀ v p', rdN t 3 p = .inl (v, p') → ∀ h1, QT G h h1 r c s t p' → h1.1 = h.1 → K v h1) (k0 : ∀ w, rdN t 3 p = .inr w → ∀ q h1, IQ G h h1 c s w → h1.1 = h.1 + 1 → X (xIA, q) h1) : vgb h r 7 0 fun x => vob h x 2 (mv_rq l G mX0_readNumber d 0 (mv_in [.ref x, .int 3] 6) [] h (vI X K)) := by
  obtain ⟨⟨cv, a1⟩, a2, a3, a4, a5, a6⟩ := id H
  refine vgb_of a1 rfl (vob_of a2 ((sp_readNumber (lim := 3) hG hX a2 a3 (by omega) a6 a5.2 hd).mono fun o h1 hq => ?_))
  rcases hq with ⟨v, p', e, hp, ho, hh⟩ | ⟨w, p'', e, ho, hh⟩
  · refine Or.inl ⟨v, ho, k1 v p' e h1 ?_ (by rw [← hh]; rfl)⟩
    rw [← hh]
    exact H.st.cur hp
  · refine Or.inr ⟨_, ho, k0 w e _ h1 ?_ (by rw [← hh]; rfl)⟩
    rw [← hh]
    exact H.st.ill
theorem qSNum {X : String × Nat → mv_H → Prop} {K : Int32 → mv_H → Prop} (hG : mv_ok G) (H : QS G h r c s t p) (hd : 7 ≤ d) (k : K (if isNm t p then 1 else 0) h) : vgb h r 7 0 fun x => vob h x 2 (mv_rq l G mX0_seesNumber d 0 (mv_in [.ref x] 1) [] h (vI X K)) := by
  obtain ⟨⟨cv, a1⟩, a2, a3, a4, a5, a6⟩ := H
  exact vgb_of a1 rfl (vob_of a2 (vI_of (sp_seesNumber hG a2 a3 a6 hd) k))
theorem QS.rd (H : QS G h r c s t p) : ∃ fs, h.2.2 r = some (.inr (7, fs)) := ⟨_, H.1.choose_spec⟩
theorem QS.at {P : Int32 → Prop} (H : QS G h r c s t p) (k : P (nI p)) : vgb h r 7 0 fun x => vgi h x 2 1 P := by
  obtain ⟨⟨cv, a1⟩, a2, _⟩ := H
  exact vgb_of a1 rfl (vgi_of a2 rfl k)
theorem nIlk (H : QS G h r c s t p) {k : Nat} (hk : k < 128) : (nI (lk t p) = nI k) = (lk t p = k) := by
  have e4 : ∀ j, lk t j < 128 := (mv_str_at H.2.2.1).elim fun q ⟨x, y, f, a, b, c, d, e⟩ => d
  exact propext (nI_eq (by have := e4 p; omega) (by omega))
/-! what the reader sees -/
theorem sp_seesPath (hG : mv_ok G) (H : QS G h r c s t p) (hd : 5 ≤ d) : mv_rq l G mX5_seesPath (d + 1) 0 (mv_in [.ref r] 1) [] h (fun o h1 => o = .inl (some (.int (if isPt t p then 1 else 0))) ∧ h = h1) := by
  refine v_X5_seesPath hG ?_
  unfold w_X5_seesPath
  refine qLok hG H hd ?_
  rw [show (nI (lk t p) = 64) = (lk t p = 64) from nIlk H (k := 64) (by omega)]
  refine vif_of (fun c => ⟨by rw [if_pos (Or.inl c)], rfl⟩) (fun c => qLok hG H hd ?_)
  rw [show (nI (lk t p) = 36) = (lk t p = 36) from nIlk H (k := 36) (by omega)]
  refine vif_of (fun c2 => ⟨by rw [if_pos (Or.inr c2)], rfl⟩) (fun c2 => ⟨by rw [if_neg (fun z => z.elim c c2)], rfl⟩)
theorem sp_seesSegment (hG : mv_ok G) (H : QS G h r c s t p) (hd : 5 ≤ d) : mv_rq l G mX5_seesSegment (d + 1) 0 (mv_in [.ref r] 1) [] h (fun o h1 => o = .inl (some (.int (if lk t p = 46 ∨ lk t p = 91 then 1 else 0))) ∧ h = h1) := by
  refine v_X5_seesSegment hG ?_
  unfold w_X5_seesSegment
  refine qLok hG H hd ?_
  rw [show (nI (lk t p) = 46) = (lk t p = 46) from nIlk H (k := 46) (by omega)]
  refine vif_of (fun c => ⟨by rw [if_pos (Or.inl c)], rfl⟩) (fun c => qLok hG H hd ?_)
  rw [show (nI (lk t p) = 91) = (lk t p = 91) from nIlk H (k := 91) (by omega)]
  refine vif_of (fun c2 => ⟨by rw [if_pos (Or.inr c2)], rfl⟩) (fun c2 => ⟨by rw [if_neg (fun z => z.elim c c2)], rfl⟩)
theorem sp_seesRelation (hG : mv_ok G) (H : QS G h r c s t p) (hd : 5 ≤ d) : mv_rq l G mX5_seesRelation (d + 1) 0 (mv_in [.ref r] 2) [] h (fun o h1 => o = .inl (some (.int (if lk t p = 61 ∨ lk t p = 33 ∨ lk t p = 60 ∨ lk t p = 62 then 1 else 0))) ∧ h = h1) := by
  refine v_X5_seesRelation hG ?_
  unfold w_X5_seesRelation
  refine qLok hG H hd ?_
  rw [show (nI (lk t p) = 61) = (lk t p = 61) from nIlk H (k := 61) (by omega), show (nI (lk t p) = 33) = (lk t p = 33) from nIlk H (k := 33) (by omega), show (nI (lk t p) = 60) = (lk t p = 60) from nIlk H (k := 60) (by omega), show (nI (lk t p) = 62) = (lk t p = 62) from nIlk H (k := 62) (by omega)]
  refine vif_of (fun c => ⟨by rw [if_pos (Or.inl c)], rfl⟩) (fun c => vif_of (fun c2 => ⟨by rw [if_pos (Or.inr (Or.inl c2))], rfl⟩) (fun c2 => vif_of (fun c3 => ⟨by rw [if_pos (Or.inr (Or.inr (Or.inl c3)))], rfl⟩) (fun c3 => vif_of (fun c4 => ⟨by rw [if_pos (Or.inr (Or.inr (Or.inr c4)))], rfl⟩) (fun c4 => ⟨by rw [if_neg (by omega)], rfl⟩))))
/-- what comes of reading without objects -/
def QN (G : mv_G) (h : mv_H) (r c s : Nat) (t : List Nat) {β : Type} (V : β → mv_O → Prop) (x : (β × Nat) ⊕ Nat) (o : mv_O) (h1 : mv_H) : Prop := match x with
  | .inl (d, p') => V d o ∧ QT G h h1 r c s t p' ∧ h1.1 = h.1
  | .inr w => (∃ q, o = .inr (xIA, q)) ∧ IQ G h h1 c s w ∧ h1.1 = h.1 + 1
theorem sp_readRelation (hG : mv_ok G) (hX : mv_okX l G) (H : QS G h r c s t p) (hd : 8 ≤ d) : mv_rq l G mX5_readRelation (d + 1) 0 (mv_in [.ref r] 2) [] h (QN G h r c s t (fun n o => o = .inl (some (.int (nI n)))) (qRel t p)) := by
  refine v_X5_readRelation hG ?_
  unfold w_X5_readRelation
  refine qPas (ch := 60) hG H (by omega) (by omega) (by omega) (fun c1 h1 T1 e1 => vif_n (by decide) (qPas (ch := 61) hG T1.1 (by omega) (by omega) (by omega) (fun c2 h2 T2 e2 => vif_n (by decide) ?_) (fun c2 => vif_y rfl ?_))) (fun c1 => vif_y rfl (qPas (ch := 62) hG H (by omega) (by omega) (by omega) (fun c3 h1 T1 e1 => vif_n (by decide) (qPas (ch := 61) hG T1.1 (by omega) (by omega) (by omega) (fun c2 h2 T2 e2 => vif_n (by decide) ?_) (fun c2 => vif_y rfl ?_))) (fun c3 => vif_y rfl (qPas (ch := 33) hG H (by omega) (by omega) (by omega) (fun c4 h1 T1 e1 => vif_n (by decide) (v_X5_readRelation_83 hG ?_)) (fun c4 => vif_y rfl (qExp (ch := 61) hG hX H (by omega) (by omega) hd (fun c5 h1 T1 e1 => v_X5_readRelation_83 hG ?_) (fun c5 q h1 I e1 => ?_)))))))
  · unfold qRel; rw [if_pos c1, if_pos c2]; exact ⟨rfl, T1.tr T2, by omega⟩
  · unfold qRel; rw [if_pos c1, if_neg c2]; exact ⟨rfl, T1, by omega⟩
  · unfold qRel; rw [if_neg c1, if_pos c3, if_pos c2]; exact ⟨rfl, T1.tr T2, by omega⟩
  · unfold qRel; rw [if_neg c1, if_pos c3, if_neg c2]; exact ⟨rfl, T1, by omega⟩
  · unfold w_X5_readRelation_83
    refine qExp (ch := 61) hG hX T1.1 (by omega) (by omega) hd (fun c5 h2 T2 e2 => vif_n (by decide) ?_) (fun c5 q h2 I e2 => ?_)
    · unfold qRel; rw [if_neg c1, if_neg c3, if_pos c4, if_pos c5]; exact ⟨rfl, T1.tr T2, by omega⟩
    · unfold qRel; rw [if_neg c1, if_neg c3, if_pos c4, if_neg c5]; exact ⟨⟨_, rfl⟩, I.tr T1.2.1, by omega⟩
  · unfold w_X5_readRelation_83
    refine qExp (ch := 61) hG hX T1.1 (by omega) (by omega) hd (fun c6 h2 T2 e2 => vif_y rfl ?_) (fun c6 q h2 I e2 => ?_)
    · unfold qRel; rw [if_neg c1, if_neg c3, if_neg c4, if_pos c5, if_pos c6]; exact ⟨rfl, T1.tr T2, by omega⟩
    · unfold qRel; rw [if_neg c1, if_neg c3, if_neg c4, if_pos c5, if_neg c6]; exact ⟨⟨_, rfl⟩, I.tr T1.2.1, by omega⟩
  · unfold qRel; rw [if_neg c1, if_neg c3, if_neg c4, if_neg c5]; exact ⟨⟨_, rfl⟩, I, by omega⟩
/-- one of ? ! ( is opened -/
theorem sp_open {ch dep : Nat} (hG : mv_ok G) (hX : mv_okX l G) (H : QS G h r c s t p) (h0 : ch ≠ 0) (h9 : ch < 128) (hdp : dep ≤ 4) (hd : 8 ≤ d) : mv_rq l G mX5_open (d + 1) 0 (mv_in [.ref r, .int (nI ch), .int (nI dep)] 3) [] h (QN G h r c s t (fun n o => o = .inl none) (if lk t p = ch ∧ dep < 4 then .inl ((), p + 1) else .inr p)) := by
  have h30 : (lk t p = ch → dep < 4) → mv_rq l G mX5_open (d + 1) 30 [some (.ref r), some (.int (nI ch)), none] [] h (QN G h r c s t (fun n o => o = .inl none) (if lk t p = ch ∧ dep < 4 then .inl ((), p + 1) else .inr p)) := fun hdd => by
    refine v_X5_open_30 hG ?_
    unfold w_X5_open_30
    refine qExp hG hX H h0 h9 hd (fun c1 h1 T1 e1 => ?_) (fun c1 q h1 I e1 => ?_)
    · rw [if_pos ⟨c1, hdd c1⟩]; exact ⟨rfl, T1, e1⟩
    · rw [if_neg (fun z => c1 z.1)]; exact ⟨⟨_, rfl⟩, I, e1⟩
  refine v_X5_open hG ?_
  unfold w_X5_open
  refine qLok hG H (by omega) ?_
  rw [nIlk H h9]
  refine vif_of (fun c1 => vif_of (fun c2 => h30 (fun _ => (nI_ltI (b := 4) (by omega) (by omega)).mp c2)) (fun c2 => ?_)) (fun c1 => h30 (fun z => absurd z c1))
  have c2' : ¬ dep < 4 := fun z => c2 ((nI_ltI (b := 4) (by omega) (by omega)).mpr z)
  obtain ⟨⟨cv, a1⟩, a2, a3, a4, a5, a6⟩ := id H
  refine vgb_of a1 rfl (vgb_of a1 rfl (vgi_of a2 rfl (vob_of a2 (qRef (w := p) hG hX H (by omega) (fun q h1 I e1 => ?_)))))
  rw [if_neg (fun z => c2' z.2)]; exact ⟨⟨_, rfl⟩, I, e1⟩
end QC
