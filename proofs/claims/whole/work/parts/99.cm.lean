/-! the reader of queries: its state, what it changes -/
/-- new cells and the cursor alone; at most 10 slots a cell -/
def qst (G : mv_G) (h h1 : mv_H) (c : Nat) : Prop := (mv_wf h1 ∧ G.2.2.1 ≤ h1.1) ∧ (h.1 ≤ h1.1 ∧ h.2.1 ≤ h1.2.1 ∧ h1.2.1 + 10 * h.1 ≤ h.2.1 + 10 * h1.1) ∧ (∀ a, a < h.1 → a ≠ c → h1.2.2 a = h.2.2 a) ∧ ksT G h h1
theorem qst.rf {G : mv_G} {h : mv_H} {c : Nat} (hw : mv_wf h) (hb : G.2.2.1 ≤ h.1) : qst G h h c := ⟨⟨hw, hb⟩, ⟨Nat.le_refl _, Nat.le_refl _, Nat.le_refl _⟩, fun _ _ _ => rfl, ksT.rf⟩
theorem qst.tr {G : mv_G} {h h1 h2 : mv_H} {c : Nat} (a : qst G h h1 c) (b : qst G h1 h2 c) : qst G h h2 c := by
  obtain ⟨a1, ⟨a2, a3, a4⟩, a5, a6⟩ := a
  obtain ⟨b1, ⟨b2, b3, b4⟩, b5, b6⟩ := b
  exact ⟨b1, ⟨by omega, by omega, by omega⟩, fun x h1 h2 => by rw [b5 x (by omega) h2, a5 x h1 h2], a6.tr b6⟩
theorem ksT.new {G : mv_G} {h : mv_H} {n : Nat} {e : va_E} (hw : mv_wf h) (he : ∀ fs, e ≠ .inr (0, fs)) : ksT G h (mv_new h n e) := by
  refine ⟨fun q e' hq _ => hn_o hw hq, Nat.le_succ _, fun a q x hq => ?_⟩
  have hq' : (if a = h.1 then some e else h.2.2 a) = some (.inr (0, .ref q :: x)) := hq
  by_cases c : a = h.1
  · rw [if_pos c] at hq'
    exact absurd (Option.some.inj hq') (he _)
  · rw [if_neg c] at hq'; exact Or.inl hq'
theorem hn_n {h : mv_H} {n a : Nat} {e : va_E} (ha : a ≠ h.1) : (mv_new h n e).2.2 a = h.2.2 a := if_neg ha
theorem qst.new {G : mv_G} {h : mv_H} {c n : Nat} {e : va_E} (hw : mv_wf h) (hb : G.2.2.1 ≤ h.1) (hn : n ≤ 10) (he : ∀ fs, e ≠ .inr (0, fs)) : qst G h (mv_new h n e) c :=
  ⟨⟨mv_wf_new hw, Nat.le_succ_of_le hb⟩, ⟨Nat.le_succ _, Nat.le_add_right _ _, by show h.2.1 + n + 10 * h.1 ≤ h.2.1 + 10 * (h.1 + 1); omega⟩, fun a h1 _ => hn_n (by omega), ksT.new hw he⟩
/-- one of the new cells is changed -/
theorem qst.set {G : mv_G} {h h1 : mv_H} {c a : Nat} {e0 e : va_E} (R : qst G h h1 c) (ha : h.1 ≤ a ∨ a = c) (h0 : h1.2.2 a = some e0) (hn : ¬ isTx G e0) (he : ∀ fs, e ≠ .inr (0, fs)) : qst G h (mv_set h1 a e) c := by
  obtain ⟨⟨a1, a1'⟩, ⟨a2, a3, a4⟩, a5, a6⟩ := R
  refine ⟨⟨mv_wf_set a1 h0, a1'⟩, ⟨a2, a3, a4⟩, fun x x1 x2 => ?_, a6.tr (ksT.set h0 hn he)⟩
  rw [hs_n (by omega), a5 x x1 x2]
theorem qst.thr {G : mv_G} {h : mv_H} {c : Nat} (hw : mv_wf h) (hb : G.2.2.1 ≤ h.1) : qst G h (thr h) c :=
  ⟨⟨(hst.thr (W := fun _ => False) hw hb).1, (hst.thr (W := fun _ => False) hw hb).2.1⟩, ⟨Nat.le_succ _, Nat.le_add_right _ _, by show h.2.1 + 6 + 10 * h.1 ≤ h.2.1 + 10 * (h.1 + 1); omega⟩, fun _ _ _ => rfl, ksT.thr⟩
theorem qst.made {G : mv_G} {h h1 : mv_H} {c : Nat} (hw : mv_wf h) (hb : G.2.2.1 ≤ h.1) (m : mv_made h h1) : qst G h h1 c := by
  have R := rst.made (A := 0) (c := 0) hw hb m
  obtain ⟨m1, m2, m3, m4, m5, m6, _⟩ := m
  refine ⟨⟨m6, by omega⟩, ⟨m1, m3, ?_⟩, fun a h1 _ => m5 a h1, R.2⟩
  omega
/-- texts that the code holds, for queries -/
def qE (G : mv_G) (h : mv_H) : Prop := mv_env G h ∧ (∃ z0 z1 z2 z3, mv_lits G h z0 z1 z2 z3) ∧ (∃ z, mv_lt G RX8 7 "" z ∧ mv_str G h z []) ∧ (∃ z, mv_lt G RX11 18 "" z ∧ mv_str G h z []) ∧ (∃ z, mv_lt G RX5 225 "length" z ∧ mv_str G h z tLen) ∧ ∃ z, mv_lt G RX5 233 "count" z ∧ mv_str G h z tCnt
theorem qE.k {G : mv_G} {h h1 : mv_H} (e : qE G h) (k : ksT G h h1) (hw : mv_wf h1) (hb : G.2.2.1 ≤ h1.1) : qE G h1 := by
  obtain ⟨⟨⟨z, a1, a2⟩, _, _⟩, ⟨z0, z1, z2, z3, ⟨b1, b2⟩, ⟨c1, c2⟩, ⟨d1, d2⟩, e1, e2⟩, ⟨y, f1, f2⟩, ⟨x, g1, g2⟩, ⟨w, i1, i2⟩, ⟨v, j1, j2⟩⟩ := e
  exact ⟨⟨⟨z, a1, k.s a2⟩, hw, hb⟩, ⟨z0, z1, z2, z3, ⟨b1, k.s b2⟩, ⟨c1, k.s c2⟩, ⟨d1, k.s d2⟩, e1, k.s e2⟩, ⟨y, f1, k.s f2⟩, ⟨x, g1, k.s g2⟩, ⟨w, i1, k.s i2⟩, ⟨v, j1, k.s j2⟩⟩
def QS (G : mv_G) (h : mv_H) (r c s : Nat) (t : List Nat) (p : Nat) : Prop := (∃ cv, h.2.2 r = some (.inr (7, [.ref c, va_rf cv]))) ∧ h.2.2 c = some (curE s p (-1)) ∧ mv_str G h s t ∧ qE G h ∧ (r ≠ c ∧ G.2.2.1 ≤ c) ∧ p ≤ t.length
theorem QS.wf {G : mv_G} {h : mv_H} {r c s : Nat} {t : List Nat} {p : Nat} (H : QS G h r c s t p) : mv_wf h ∧ G.2.2.1 ≤ h.1 := H.2.2.2.1.1.2
theorem QS.mv {G : mv_G} {h h1 : mv_H} {r c s : Nat} {t : List Nat} {p p' : Nat} (H : QS G h r c s t p) (R : qst G h h1 c) (hc : h1.2.2 c = some (curE s p' (-1))) (hp : p' ≤ t.length) : QS G h1 r c s t p' := by
  obtain ⟨⟨cv, a1⟩, a2, a3, a4, a5, a6⟩ := H
  exact ⟨⟨cv, by rw [R.2.2.1 r (mv_wf_lt a4.1.2.1 a1) a5.1]; exact a1⟩, hc, R.2.2.2.s a3, a4.k R.2.2.2 R.1.1 R.1.2, a5, hp⟩
/-- on the way from h to h1 -/
def QT (G : mv_G) (h h1 : mv_H) (r c s : Nat) (t : List Nat) (p : Nat) : Prop := QS G h1 r c s t p ∧ qst G h h1 c ∧ r < h.1 ∧ c < h.1
theorem QS.st {G : mv_G} {h : mv_H} {r c s : Nat} {t : List Nat} {p : Nat} (H : QS G h r c s t p) : QT G h h r c s t p := by
  obtain ⟨hw, hb⟩ := H.wf
  obtain ⟨⟨cv, a1⟩, a2, _⟩ := id H
  exact ⟨H, qst.rf hw hb, mv_wf_lt hw a1, mv_wf_lt hw a2⟩
theorem QT.tr {G : mv_G} {h h1 h2 : mv_H} {r c s : Nat} {t : List Nat} {p p' : Nat} (A : QT G h h1 r c s t p) (B : QT G h1 h2 r c s t p') : QT G h h2 r c s t p' := ⟨B.1, A.2.1.tr B.2.1, A.2.2⟩
theorem QT.new {G : mv_G} {h h1 : mv_H} {r c s n : Nat} {t : List Nat} {p : Nat} {e : va_E} (A : QT G h h1 r c s t p) (hn : n ≤ 10) (he : ∀ fs, e ≠ .inr (0, fs)) : QT G h (mv_new h1 n e) r c s t p := by
  obtain ⟨hw, hb⟩ := A.1.wf
  have R : qst G h1 (mv_new h1 n e) c := qst.new hw hb hn he
  exact ⟨A.1.mv R (hn_o hw A.1.2.1) A.1.2.2.2.2.2, A.2.1.tr R, A.2.2⟩
theorem QT.set {G : mv_G} {h h1 : mv_H} {r c s a ci : Nat} {t : List Nat} {p : Nat} {fs : List Value} {e : va_E} (A : QT G h h1 r c s t p) (ha : h.1 ≤ a) (h0 : h1.2.2 a = some (.inr (ci, fs))) (hn : ci ≠ 0) (he : ∀ fs, e ≠ .inr (0, fs)) : QT G h (mv_set h1 a e) r c s t p := by
  obtain ⟨hw, hb⟩ := A.1.wf
  have R := A.2.1.set (Or.inl ha) h0 (nTx_o hn) he
  have k : ksT G h1 (mv_set h1 a e) := ksT.set h0 (nTx_o hn) he
  obtain ⟨⟨cv, a1⟩, a2, a3, a4, a5, a6⟩ := A.1
  refine ⟨⟨⟨cv, by rw [hs_n (by have := A.2.2.1; omega)]; exact a1⟩, by rw [hs_n (by have := A.2.2.2; omega)]; exact a2, k.s a3, a4.k k R.1.1 R.1.2, a5, a6⟩, R, A.2.2⟩
theorem QT.cur {G : mv_G} {h h1 : mv_H} {r c s : Nat} {t : List Nat} {p p' : Nat} (A : QT G h h1 r c s t p) (hp : p' ≤ t.length) : QT G h (mv_set h1 c (curE s p' (-1))) r c s t p' := by
  obtain ⟨hw, hb⟩ := A.1.wf
  have R : qst G h1 (mv_set h1 c (curE s p' (-1))) c := (qst.rf hw hb).set (Or.inr rfl) A.1.2.1 (nTx_o (by decide)) (fun fs z => by simp at z)
  exact ⟨A.1.mv R hs_s hp, A.2.1.tr R, A.2.2⟩
theorem QT.made {G : mv_G} {h h1 h2 : mv_H} {r c s : Nat} {t : List Nat} {p : Nat} (A : QT G h h1 r c s t p) (m : mv_made h1 h2) : QT G h h2 r c s t p := by
  obtain ⟨hw, hb⟩ := A.1.wf
  have R : qst G h1 h2 c := qst.made hw hb m
  exact ⟨A.1.mv R (by rw [m.2.2.2.2.1 c (mv_wf_lt hw A.1.2.1)]; exact A.1.2.1) A.1.2.2.2.2.2, A.2.1.tr R, A.2.2⟩
/-- the text is ill at w -/
def IQ (G : mv_G) (h h1 : mv_H) (c s w : Nat) : Prop := (∃ p, h1.2.2 c = some (.inr (2, [.ref s, .int p, .int (nI w)]))) ∧ qst G h h1 c
theorem QT.ill {G : mv_G} {h h1 : mv_H} {r c s w p'' : Nat} {t : List Nat} {p : Nat} (A : QT G h h1 r c s t p) : IQ G h (thr (mv_set h1 c (curE s p'' (nI w)))) c s w := by
  obtain ⟨hw, hb⟩ := A.1.wf
  have R : qst G h1 (mv_set h1 c (curE s p'' (nI w))) c := (qst.rf hw hb).set (Or.inr rfl) A.1.2.1 (nTx_o (by decide)) (fun fs z => by simp at z)
  exact ⟨⟨_, hs_s⟩, A.2.1.tr (R.tr (qst.thr R.1.1 R.1.2))⟩
theorem IQ.tr {G : mv_G} {h h1 h2 : mv_H} {c s w : Nat} (R : qst G h h1 c) (A : IQ G h1 h2 c s w) : IQ G h h2 c s w := ⟨A.1, R.tr A.2⟩
