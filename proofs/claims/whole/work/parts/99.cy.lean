/-! a text is read as a query -/
/-- new cells, the cursor and the reader alone -/
def qfr (G : mv_G) (h h1 : mv_H) (r c k : Nat) : Prop := (mv_wf h1 ∧ G.2.2.1 ≤ h1.1) ∧ (h.1 ≤ h1.1 ∧ h1.1 ≤ h.1 + k ∧ h.2.1 ≤ h1.2.1 ∧ h1.2.1 ≤ h.2.1 + 10 * k) ∧ (∀ a, a < h.1 → a ≠ c → a ≠ r → h1.2.2 a = h.2.2 a) ∧ ksT G h h1
/-- a compiled query -/
def QP (G : mv_G) : HP (dPth × Bool × Nat) := hPth G (some (hLv G 3))
theorem QP_fr {G : mv_G} : hFr G (QP G) := hPth_fr (fun L z => by cases z; exact hLv_fr 3)
def QF (G : mv_G) (h : mv_H) (r c s : Nat) (t : List Nat) (o : mv_O) (h1 : mv_H) : Prop := (∃ p ill, h1.2.2 c = some (.inr (2, [.ref s, .int p, .int ill]))) ∧ qfr G h h1 r c (5 * t.length + 14) ∧ match pQ t with
  | .inl (d, n) => o = .inl (some (.int (-1))) ∧ ∃ a sg, h1.2.2 r = some (.inr (7, [.ref c, .ref a])) ∧ QP G h1 h.1 h1.1 a (d, sg, n)
  | .inr w => o = .inl (some (.int (nI w))) ∧ h1.2.2 r = h.2.2 r
section QM
variable {l : Launch} {G : mv_G} {d : Nat} {r c s : Nat} {t : List Nat}
theorem sp_readWhole {h : mv_H} (hG : mv_ok G) (hX : mv_okX l G) (ht : tOk t) (H : QS G h r c s t 0) (hd : 65 ≤ d) : mv_rq l G mX5_readWhole (d + 1) 0 (mv_in [.ref r] 2) [] h (fun o h1 => qst G h h1 c ∧ h1.1 ≤ h.1 + 5 * t.length + 14 ∧ match pQ t with
    | .inl (d, n) => ∃ a sg p, o = .inl (some (.ref a)) ∧ h1.2.2 c = some (curE s p (-1)) ∧ QP G h1 h.1 h1.1 a (d, sg, n)
    | .inr w => (∃ q, o = .inr (xIA, q)) ∧ ∃ p, h1.2.2 c = some (.inr (2, [.ref s, .int p, .int (nI w)]))) := by
  have hcc := H.st.2.2.2
  obtain ⟨fs, hrd⟩ := H.rd
  obtain ⟨⟨cv, a1⟩, a2, a3, a4, a5, a6⟩ := id H
  refine v_X5_readWhole hG ?_
  unfold w_X5_readWhole
  refine qLok hG H (by omega) ?_
  rw [show (nI (lk t 0) = 36) = (lk t 0 = 36) from nIlk H (k := 36) (by omega)]
  refine vif_of (fun c1 => v_X5_readWhole_26 hG ?_) (fun c1 => vgb_of a1 rfl (vgb_of a1 rfl (vgi_of a2 rfl (vob_of a2 (qRef (w := 0) hG hX H (by omega) (fun q h1 I n1 => ?_))))))
  · unfold w_X5_readWhole_26
    have hpa := (sp_lv (l := l) (G := G) (r := r) (c := c) (s := s) hG hX ht 4 (Nat.le_refl _)).1.2.1
    refine vob_of hrd ((hpa d h 0 (by omega) H (Or.inr c1)).mono fun o h1 hq => ?_)
    have eqQ : pQ t = (match (qLv t 4).2.1 0 with
      | .inr w => .inr w
      | .inl (d, p) => if p < t.length then .inr p else .inl (d.1, d.2.2)) := by
      unfold pQ
      rw [if_pos c1]
      cases (qLv t 4).2.1 0 <;> rfl
    rw [eqQ]
    cases hx : (qLv t 4).2.1 0 with
    | inr w =>
      rw [hx] at hq
      obtain ⟨⟨q, ho⟩, ⟨I1, I2⟩, b⟩ := hq
      exact Or.inr ⟨_, ho, I2, by omega, ⟨_, rfl⟩, I1⟩
    | inl x =>
      obtain ⟨e, p1⟩ := x
      rw [hx] at hq
      obtain ⟨b, ho, T1, P1, b1⟩ := hq
      obtain ⟨⟨cv1, g1⟩, g2, g3, g4, g5, g6⟩ := id T1.1
      refine Or.inl ⟨b, ho, vgb_of g1 rfl (vob_of g2 ((sp_expectEnd hG hX g2 g3 g6 g5.2 (by omega)).mono fun o2 h2 hq2 => ?_))⟩
      show vU _ _ _ _
      rcases hq2 with ⟨e2, ho2, hh⟩ | ⟨e2, ho2, hh⟩
      · rw [← hh]
        refine Or.inl ⟨ho2, T1.2.1, by omega, ?_⟩
        show match (if p1 < t.length then Sum.inr p1 else Sum.inl (e.1, e.2.2) : (dPth × Nat) ⊕ Nat) with
          | .inl (d, n) => _
          | .inr w => _
        rw [if_neg (by omega)]
        exact ⟨b, e.2.1, p1, rfl, g2, P1⟩
      · have I : IQ G h h2 c s p1 := by rw [← hh]; exact T1.ill
        have n2 : h2.1 = h1.1 + 1 := by rw [← hh]; rfl
        refine Or.inr ⟨_, ho2, I.2, by omega, ?_⟩
        show match (if p1 < t.length then Sum.inr p1 else Sum.inl (e.1, e.2.2) : (dPth × Nat) ⊕ Nat) with
          | .inl (d, n) => _
          | .inr w => _
        rw [if_pos e2]
        exact ⟨⟨_, rfl⟩, I.1⟩
  · have eqQ : pQ t = .inr 0 := by unfold pQ; rw [if_neg c1]
    rw [eqQ]
    exact ⟨I.2, by omega, ⟨_, rfl⟩, I.1⟩
theorem sp_readFrom {h : mv_H} {cv : Option Nat} {s0 : Nat} {p0 ill0 : Int32} (hG : mv_ok G) (hX : mv_okX l G) (ht : tOk t) (hr : h.2.2 r = some (.inr (7, [.ref c, va_rf cv]))) (hc : h.2.2 c = some (.inr (2, [.ref s0, .int p0, .int ill0]))) (hs : mv_str G h s t) (hq : qE G h) (hb : G.2.2.1 ≤ c ∧ G.2.2.1 ≤ r) (hd : 66 ≤ d) : mv_rq l G mX5_readFrom (d + 1) 0 (mv_in [.ref r, .ref s] 3) [] h (QF G h r c s t) := by
  obtain ⟨d, rfl⟩ : ∃ d', d = d' + 1 := ⟨d - 1, by omega⟩
  obtain ⟨hw, hb0⟩ := hq.1.2
  have hrc : r ≠ c := fun z => by rw [z, hc] at hr; cases hr
  refine v_X5_readFrom hG ?_
  unfold w_X5_readFrom
  refine vgb_of hr rfl (vob_of hc (vU_of (sp_restart hG hc hb.1 (by omega)) ?_))
  have R1 : qst G h (mv_set h c (curE s 0 (-1))) c := (qst.rf hw hb0).set (Or.inr rfl) hc (nTx_o (by decide)) (fun fs w => by simp at w)
  have r1 : (mv_set h c (curE s 0 (-1))).2.2 r = some (.inr (7, [.ref c, va_rf cv])) := by rw [hs_n hrc]; exact hr
  have Q1 : QS G (mv_set h c (curE s 0 (-1))) r c s t 0 := ⟨⟨cv, r1⟩, hs_s, R1.2.2.2.s hs, hq.k R1.2.2.2 R1.1.1 R1.1.2, ⟨hrc, hb.1⟩, Nat.zero_le _⟩
  have n1 : (mv_set h c (curE s 0 (-1))).1 = h.1 ∧ (mv_set h c (curE s 0 (-1))).2.1 = h.2.1 := ⟨rfl, rfl⟩
  generalize mv_set h c (curE s 0 (-1)) = h1 at R1 r1 Q1 n1
  refine vob_of r1 ((sp_readWhole hG hX ht Q1 (by omega)).mono fun o h2 hq2 => ?_)
  obtain ⟨R2, b2, hm⟩ := hq2
  have R := R1.tr R2
  have hrl := mv_wf_lt hw hr
  have hfr : qfr G h h2 r c (5 * t.length + 14) := ⟨R.1, ⟨R.2.1.1, by omega, R.2.1.2.1, by have := R.2.1.2.2; omega⟩, fun a x1 x2 _ => R.2.2.1 a x1 x2, R.2.2.2⟩
  have r2 : h2.2.2 r = some (.inr (7, [.ref c, va_rf cv])) := by rw [R.2.2.1 r hrl hrc]; exact hr
  unfold QF
  cases hx : pQ t with
  | inl x =>
    obtain ⟨e, n⟩ := x
    rw [hx] at hm
    obtain ⟨a, sg, p, ho, c2, P2⟩ := hm
    refine Or.inl ⟨a, ho, vpu_of r2 hb.2 (show 1 < 2 by decide) rfl ⟨⟨nI p, -1, by rw [hs_n (fun z => hrc z.symm)]; exact c2⟩, ⟨⟨mv_wf_set hfr.1.1 r2, hfr.1.2⟩, hfr.2.1, fun a x1 x2 x3 => by rw [hs_n x3]; exact hfr.2.2.1 a x1 x2 x3, hfr.2.2.2.tr (ksT.set r2 (nTx_o (by decide)))⟩, rfl, a, sg, hs_s, ?_⟩⟩
    rw [← n1.1]
    exact QP_fr.1 _ _ _ _ _ _ P2 (fun q x1 x2 => hs_n (by omega)) (str_set r2 (by decide))
  | inr w =>
    rw [hx] at hm
    obtain ⟨⟨q, ho⟩, p, c2⟩ := hm
    refine Or.inr ⟨_, ho, xc_X5_readFrom (by omega) (vgb_of r2 rfl (vgi_of c2 rfl ⟨⟨p, nI w, c2⟩, hfr, rfl, ?_⟩))⟩
    rw [r2, hr]
end QM
