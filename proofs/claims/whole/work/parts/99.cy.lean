/-! a text is read as a query -/
/-- new cells, the cursor and the reader alone -/
def qfr (G : mv_G) (h h1 : mv_H) (r c k : Nat) : Prop := (mv_wf h1 ∧ G.2.2.1 ≤ h1.1) ∧ (h.1 ≤ h1.1 ∧ h1.1 ≤ h.1 + k ∧ h.2.1 ≤ h1.2.1 ∧ h1.2.1 ≤ h.2.1 + 10 * k) ∧ (∀ a, a < h.1 → a ≠ c → a ≠ r → h1.2.2 a = h.2.2 a) ∧ ksT G h h1
/-- a compiled query -/
def QP (G : mv_G) : HP (dPth × Bool × Nat) := hPth G (some (hLv G 3))
theorem QP_fr {G : mv_G} : hFr G (QP G) := hPth_fr (fun L z => by cases z; exact hLv_fr 3)
def QF (G : mv_G) (h : mv_H) (r c s : Nat) (t : List Nat) (o : mv_O) (h1 : mv_H) : Prop := (∃ p ill, h1.2.2 c = some (.inr (2, [.ref s, .int p, .int ill]))) ∧ qfr G h h1 r c (5 * t.length + 14) ∧ match pQ t with
  | .inl (d, n) => o = .inl (some (.int (-1))) ∧ ∃ a sg, h1.2.2 r = some (.inr (7, [.ref c, .ref a])) ∧ QP G h1 h.1 h1.1 a (d, sg, n)
  | .inr w => o = .inl (some (.int (nI w))) ∧ h1.2.2 r = h.2.2 r
section QM
variable {l : Launch} {G : mv_G} {d : Nat} {r c s : Nat} {t : List Nat}
theorem sp_readFrom {h : mv_H} {cv : Option Nat} {s0 : Nat} {p0 ill0 : Int32} (hG : mv_ok G) (hX : mv_okX l G) (ht : tOk t) (hr : h.2.2 r = some (.inr (7, [.ref c, va_rf cv]))) (hc : h.2.2 c = some (.inr (2, [.ref s0, .int p0, .int ill0]))) (hs : mv_str G h s t) (hq : qE G h) (hb : G.2.2.1 ≤ c ∧ G.2.2.1 ≤ r) (hd : 66 ≤ d) : mv_rq l G mX5_readFrom (d + 1) 0 (mv_in [.ref r, .ref s] 3) [] h (QF G h r c s t) := by
  obtain ⟨d, rfl⟩ : ∃ d', d = d' + 1 := ⟨d - 1, by omega⟩
  obtain ⟨hw, hb0⟩ := hq.1.2
  have hrc : r ≠ c := fun z => by rw [z, hc] at hr; cases hr
  refine v_X5_readFrom hG ?_
  unfold w_X5_readFrom
  refine vgb_of hr rfl (vob_of hc (vU_of (sp_restart hG hc hb.1 (by omega)) ?_))
  have R1 : qst G h (mv_set h c (curE s 0 (-1))) c := (qst.rf hw hb0).set (Or.inr rfl) hc (nTx_o (by decide)) (fun fs w => by simp at w)
  have r1 : (mv_set h c (curE s 0 (-1))).2.2 r = some (.inr (7, [.ref c, va_rf cv])) := by rw [hs_n hrc]; exact hr
  have Q1 : QS G (mv_set h c (curE s 0 (-1))) r c s t 0 := ⟨⟨cv, r1⟩, hs_s, R1.2.2.2.s hs, hq.k R1.2.2.2 R1.1.1 R1.1.2, ⟨hrc, hb.1⟩, Nat.zero_le _⟩
  have n1 : (mv_set h c (curE s 0 (-1))).1 = h.1 ∧ (mv_set h c (curE s 0 (-1))).2.1 = h.2.1 := ⟨rfl, rfl⟩
  generalize mv_set h c (curE s 0 (-1)) = h1 at R1 r1 Q1 n1
  have hrl := mv_wf_lt hw hr
  have fin : ∀ h2 : mv_H, qst G h1 h2 c → h2.1 ≤ h1.1 + 5 * t.length + 14 → qfr G h h2 r c (5 * t.length + 14) ∧ h2.2.2 r = some (.inr (7, [.ref c, va_rf cv])) := fun h2 R2 b2 => by
    have R := R1.tr R2
    exact ⟨⟨R.1, ⟨R.2.1.1, by omega, R.2.1.2.1, by have := R.2.1.2.2; omega⟩, fun a x1 x2 _ => R.2.2.1 a x1 x2, R.2.2.2⟩, by rw [R.2.2.1 r hrl hrc]; exact hr⟩
  have kI : ∀ (w pc q : Nat) (x1 x2 : Option Value) (h2 : mv_H), mv_sok [some (.ref r), x1, x2] 2 = true → pQ t = .inr w → (8 ≤ pc ∧ pc < 52) → qst G h1 h2 c → h2.1 ≤ h1.1 + 5 * t.length + 14 → (∃ p : Int32, h2.2.2 c = some (.inr (2, [.ref s, .int p, .int (nI w)]))) → mv_xq l G mX5_readFrom (d + 1 + 1) pc [some (.ref r), x1, x2] (xIA, q) h2 (QF G h r c s t) := by
    intro w pc q x1 x2 h2 hsk hx hpc R2 b2 c2'
    obtain ⟨p, c2⟩ := c2'
    obtain ⟨hfr, r2⟩ := fin h2 R2 b2
    refine xc_X5_readFrom hsk hpc (vgb_of r2 rfl (vgi_of c2 rfl ?_))
    show QF G h r c s t _ _
    unfold QF
    rw [hx]
    exact ⟨⟨p, nI w, c2⟩, hfr, rfl, by rw [r2, hr]⟩
  have kR : ∀ (e : dPth) (n a : Nat) (sg : Bool) (p : Nat) (h2 : mv_H), pQ t = .inl (e, n) → qst G h1 h2 c → h2.1 ≤ h1.1 + 5 * t.length + 14 → h2.2.2 c = some (curE s p (-1)) → QP G h2 h1.1 h2.1 a (e, sg, n) → vpu G h2 r 7 1 (.ref a) fun h49 => QF G h r c s t (.inl (some (.int (-1)))) h49 := by
    intro e n a sg p h2 hx R2 b2 c2 P2
    obtain ⟨hfr, r2⟩ := fin h2 R2 b2
    refine vpu_of r2 hb.2 (show 1 < 2 by decide) rfl ?_
    show QF G h r c s t _ _
    unfold QF
    rw [hx]
    refine ⟨⟨nI p, -1, by rw [hs_n (fun z => hrc z.symm)]; exact c2⟩, ⟨⟨mv_wf_set hfr.1.1 r2, hfr.1.2⟩, hfr.2.1, fun a x1 x2 x3 => by rw [hs_n x3]; exact hfr.2.2.1 a x1 x2 x3, hfr.2.2.2.tr (ksT.set r2 (nTx_o (by decide)))⟩, rfl, a, sg, hs_s, ?_⟩
    rw [← n1.1]
    exact QP_fr.1 _ _ _ _ _ _ P2 (fun q x1 x2 => hs_n (by omega)) (str_set r2 (by decide))
  obtain ⟨fs, hrd⟩ := Q1.rd
  obtain ⟨⟨cv1, a1⟩, a2, a3, a4, a5, a6⟩ := id Q1
  refine qLok hG Q1 (by omega) ?_
  rw [show (nI (lk t 0) = 36) = (lk t 0 = 36) from nIlk Q1 (k := 36) (by omega)]
  refine vif_of (fun c1 => v_X5_readFrom_34 hG ?_) (fun c1 => vgb_of a1 rfl (vgb_of a1 rfl (vgi_of a2 rfl (vob_of a2 (qRef (w := 0) hG hX Q1 (by omega) (fun q h2 I n2 => kI 0 _ q _ _ h2 rfl (by unfold pQ; rw [if_neg c1]) (by omega) I.2 (by omega) I.1))))))
  unfold w_X5_readFrom_34
  have hpa := (sp_lv (l := l) (G := G) (r := r) (c := c) (s := s) hG hX ht 4 (Nat.le_refl _)).1.2.1
  refine vob_of hrd ((hpa (d + 1) h1 0 (by omega) Q1 (Or.inr c1)).mono fun o h2 hq2 => ?_)
  have eqQ : pQ t = (match (qLv t 4).2.1 0 with
    | .inr w => .inr w
    | .inl (d, p) => if p < t.length then .inr p else .inl (d.1, d.2.2)) := by
    unfold pQ
    rw [if_pos c1]
    cases (qLv t 4).2.1 0 <;> rfl
  cases hx : (qLv t 4).2.1 0 with
  | inr w =>
    rw [hx] at hq2 eqQ
    obtain ⟨⟨q, ho⟩, ⟨I1, I2⟩, b⟩ := hq2
    exact Or.inr ⟨_, ho, kI w _ q _ _ h2 rfl eqQ (by omega) I2 (by omega) I1⟩
  | inl x =>
    obtain ⟨e, p1⟩ := x
    rw [hx] at hq2 eqQ
    obtain ⟨b, ho, T1, P1, b1⟩ := hq2
    obtain ⟨⟨cv2, g1⟩, g2, g3, g4, g5, g6⟩ := id T1.1
    have eqQ' : pQ t = (if p1 < t.length then .inr p1 else .inl (e.1, e.2.2)) := eqQ
    refine Or.inl ⟨b, ho, vgb_of g1 rfl (vob_of g2 ((sp_expectEnd hG hX g2 g3 g6 g5.2 (by omega)).mono fun o2 h3 hq3 => ?_))⟩
    show vU _ _ _ _
    rcases hq3 with ⟨e2, ho2, hh⟩ | ⟨e2, ho2, hh⟩
    · rw [← hh]
      have e3 : ¬ p1 < t.length := by omega
      rw [if_neg e3] at eqQ'
      exact Or.inl ⟨ho2, kR e.1 e.2.2 b e.2.1 p1 h2 eqQ' T1.2.1 (by omega) g2 P1⟩
    · have I : IQ G h1 h3 c s p1 := by rw [← hh]; exact T1.ill
      have n2 : h3.1 = h2.1 + 1 := by rw [← hh]; rfl
      rw [if_pos e2] at eqQ'
      exact Or.inr ⟨_, ho2, kI p1 _ _ _ _ h3 rfl eqQ' (by omega) I.2 (by omega) I.1⟩
end QM
