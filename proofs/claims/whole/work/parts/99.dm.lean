/-! a TreePaths object on the heap -/
/-- cells out of W stay, texts stay, new texts have new arrays -/
def chg (G : mv_G) (h h1 : mv_H) (W : Nat → Prop) : Prop := (mv_wf h1 ∧ G.2.2.1 ≤ h1.1 ∧ h.1 ≤ h1.1) ∧ (∀ a, a < h.1 → ¬ W a → h1.2.2 a = h.2.2 a) ∧ (∀ s t, mv_str G h s t → mv_str G h1 s t) ∧ ∀ (a q : Nat) (x : List Value), h1.2.2 a = some (.inr (0, .ref q :: x)) → h.2.2 a = some (.inr (0, .ref q :: x)) ∨ h.1 ≤ q ∧ q < h1.1
theorem chg.rf {G : mv_G} {h : mv_H} {W : Nat → Prop} (hw : mv_wf h) (hb : G.2.2.1 ≤ h.1) : chg G h h W := ⟨⟨hw, hb, Nat.le_refl _⟩, fun _ _ _ => rfl, fun _ _ z => z, fun _ _ _ z => Or.inl z⟩
theorem chg.tr {G : mv_G} {h h1 h2 : mv_H} {W : Nat → Prop} (a : chg G h h1 W) (b : chg G h1 h2 W) : chg G h h2 W := by
  obtain ⟨⟨a1, a2, a3⟩, a4, a5, a6⟩ := a
  obtain ⟨⟨b1, b2, b3⟩, b4, b5, b6⟩ := b
  refine ⟨⟨b1, b2, by omega⟩, fun q x1 x2 => by rw [b4 q (by omega) x2, a4 q x1 x2], fun s t z => b5 s t (a5 s t z), fun q r x z => ?_⟩
  rcases b6 q r x z with w | w
  · rcases a6 q r x w with v | v
    · exact Or.inl v
    · exact Or.inr ⟨v.1, by omega⟩
  · exact Or.inr ⟨by omega, w.2⟩
theorem chg.mn {G : mv_G} {h h1 : mv_H} {W W' : Nat → Prop} (a : chg G h h1 W) (w : ∀ q, q < h.1 → W q → W' q) : chg G h h1 W' := ⟨a.1, fun q x1 x2 => a.2.1 q x1 (fun z => x2 (w q x1 z)), a.2.2⟩
theorem chg.k {G : mv_G} {h h1 : mv_H} {W : Nat → Prop} (k : ksT G h h1) (hw : mv_wf h1) (hb : G.2.2.1 ≤ h1.1) (s : ∀ a, a < h.1 → ¬ W a → h1.2.2 a = h.2.2 a) : chg G h h1 W := ⟨⟨hw, hb, k.2.1⟩, s, fun _ _ z => k.s z, k.2.2⟩
theorem chg.sb {G : mv_G} {h h1 : mv_H} {b v v' k cap : Nat} {t : List Nat} (F : sbF G h h1 b v v' k) (n : nsv h v) (hS : mv_sb G h b v cap t) : chg G h h1 (fun a => a = b ∨ a = v) := ⟨⟨F.1.1, F.1.2.1, F.2.1.2.1⟩, F.1.2.2.2.2.2.2, fun _ _ z => F.str n hS z, fun a q x z => Or.inl (F.2.1.2.2 a q x z)⟩
section TP
variable {G : mv_G} {h h1 : mv_H} {W : Nat → Prop}
theorem chg.at {a : Nat} {e : va_E} (C : chg G h h1 W) (hw : mv_wf h) (ha : h.2.2 a = some e) (hn : ¬ W a) : h1.2.2 a = some e := by rw [C.2.1 a (mv_wf_lt hw ha) hn]; exact ha
theorem mv_sb.c {b v cap : Nat} {t : List Nat} (H : mv_sb G h b v cap t) (C : chg G h h1 W) (hw : mv_wf h) (n1 : ¬ W b) (n2 : ¬ W v) : mv_sb G h1 b v cap t := by
  obtain ⟨f, mb, s1, s2, s3⟩ := H
  exact ⟨f, mb, C.at hw s1 n1, C.at hw s2 n2, s3⟩
theorem nsv.c {v : Nat} (n : nsv h v) (C : chg G h h1 W) (hv : v < h.1) : nsv h1 v := fun a q x e => by
  rcases C.2.2.2 a q x e with z | z
  · obtain ⟨z1, z2⟩ := n a q x z
    exact ⟨z1, by have := C.1.2.2; omega⟩
  · exact ⟨by omega, z.2⟩
theorem hrw.c {R : Nat} {row : List Nat} (H : hrw G h R row) (C : chg G h h1 W) (hw : mv_wf h) (n1 : ¬ W R) (n2 : ¬ W (R + 1)) : hrw G h1 R row := by
  obtain ⟨a, ⟨f, b, c⟩, e, g⟩ := H
  exact ⟨C.at hw a n1, ⟨f, C.at hw b n2, c⟩, e, g⟩
theorem hdc.c {A src : Nat} {cnt : Int32} {V : Nat → vF} {I : Nat → Nat → Int32} (H : hdc G h A src cnt V I) (C : chg G h h1 W) (hw : mv_wf h) (hn : ∀ a, A ≤ a → a < A + 83 → ¬ W a) : hdc G h1 A src cnt V I := by
  have := H.top hw
  exact H.fr fun a x1 x2 => C.2.1 a (by omega) (hn a x1 x2)
/-- no text has its array from lo to hi -/
def nsr (h : mv_H) (lo hi : Nat) : Prop := ∀ (a q : Nat) (x : List Value), h.2.2 a = some (.inr (0, .ref q :: x)) → q < lo ∨ hi ≤ q
theorem nsr.c {lo hi : Nat} (n : nsr h lo hi) (C : chg G h h1 W) (hv : hi ≤ h.1) : nsr h1 lo hi := fun a q x e => by
  rcases C.2.2.2 a q x e with z | z
  · exact n a q x z
  · exact Or.inr (by omega)
/-- the current document -/
def DK (G : mv_G) (h : mv_H) (A : Nat) (o : Option (List Nat)) : Prop := (∃ s V I, hdc G h A s (nI (dOf o).1) V I ∧ dcD G h (dOf o) V I ∧ ∀ t, o = some t → mv_str G h s t) ∧ ∀ t, o = some t → tOk t ∧ ∃ D, pD t = .inl D
theorem DK.c {A : Nat} {o : Option (List Nat)} (H : DK G h A o) (C : chg G h h1 W) (hw : mv_wf h) (hn : ∀ a, A ≤ a → a < A + 83 → ¬ W a) : DK G h1 A o := by
  obtain ⟨⟨s, V, I, a, b, c⟩, d⟩ := H
  exact ⟨⟨s, V, I, a.c C hw hn, b.m C.2.2.1, fun t e => C.2.2.1 _ _ (c t e)⟩, d⟩
/-- the compiled query -/
def QK (G : mv_G) (h : mv_H) (y0 v1 v2 : Nat) (o : Option (List Nat)) (qp : Option Nat) : Prop := (o = none ∧ qp = none) ∨ ∃ tq d n a sg qx qy, o = some tq ∧ pQ tq = .inl (d, n) ∧ qp = some a ∧ KP G h qx qy a (d, sg, n) ∧ y0 ≤ qx ∧ qx ≤ qy ∧ qy ≤ h.1 ∧ ((v1 < qx ∨ qy ≤ v1) ∧ (v2 < qx ∨ qy ≤ v2))
/-- texts of the code -/
def lE (G : mv_G) (h : mv_H) : Prop := envL G h ∧ qE G h ∧ ptE G h ∧ ∃ z, mv_lt G RX3 240 "" z ∧ mv_str G h z []
theorem dgE.c (e : dgE G h) (C : chg G h h1 W) (hw : mv_wf h) (hn : ∀ a, a < G.2.2.1 → ¬ W a) : dgE G h1 := by
  obtain ⟨q1, q2, f1, f2, a1, a2, a3, a4, a5, a6⟩ := e
  exact ⟨q1, q2, f1, f2, a1, a2, a3, C.at hw a4 (hn _ a3.1), C.at hw a5 (hn _ a3.2), a6⟩
theorem lE.c (H : lE G h) (C : chg G h h1 W) (hw : mv_wf h) (hn : ∀ a, a < G.2.2.1 → ¬ W a) : lE G h1 := by
  obtain ⟨⟨⟨⟨z, a1, a2⟩, _, _⟩, ⟨z0, z1, z2, z3, ⟨b1, b2⟩, ⟨c1, c2⟩, ⟨d1, d2⟩, e1, e2⟩, ⟨y, f1, f2⟩, ⟨x, g1, g2⟩⟩, ⟨_, ⟨w0, w1, w2, w3, ⟨i1, i2⟩, ⟨j1, j2⟩, ⟨k1, k2⟩, l1, l2⟩, ⟨y', m1, m2⟩, ⟨x', n1, n2⟩, ⟨w, o1, o2⟩, ⟨v, p1, p2⟩⟩, ⟨⟨q, q1, q2⟩, ⟨q', q3, q4⟩, q5⟩, ⟨u, u1, u2⟩⟩ := H
  have m := C.2.2.1
  have en : mv_env G h1 := ⟨⟨z, a1, m _ _ a2⟩, C.1.1, C.1.2.1⟩
  exact ⟨⟨en, ⟨z0, z1, z2, z3, ⟨b1, m _ _ b2⟩, ⟨c1, m _ _ c2⟩, ⟨d1, m _ _ d2⟩, e1, m _ _ e2⟩, ⟨y, f1, m _ _ f2⟩, ⟨x, g1, m _ _ g2⟩⟩, ⟨en, ⟨w0, w1, w2, w3, ⟨i1, m _ _ i2⟩, ⟨j1, m _ _ j2⟩, ⟨k1, m _ _ k2⟩, l1, m _ _ l2⟩, ⟨y', m1, m _ _ m2⟩, ⟨x', n1, m _ _ n2⟩, ⟨w, o1, m _ _ o2⟩, ⟨v, p1, m _ _ p2⟩⟩, ⟨⟨q, q1, m _ _ q2⟩, ⟨q', q3, m _ _ q4⟩, q5.c C hw hn⟩, ⟨u, u1, m _ _ u2⟩⟩
/-- the finder at rest -/
def FR (G : mv_G) (h : mv_H) (f : Nat) : Prop := (∃ A0 kk, h.2.2 f = some (.inr (5, [.ref (f + 1), A0, .int kk]))) ∧ (∃ g, h.2.2 (f + 1) = some (.inl (mv_t G 5, 10, .inr (.inr (.inr (.inr g))))) ∧ ∀ i, i < 10 → g i = some (f + 2 + 2 * i)) ∧ ∀ i, i < 10 → ∃ row, hrw G h (f + 2 + 2 * i) row
theorem FR.c {f : Nat} (H : FR G h f) (C : chg G h h1 W) (hw : mv_wf h) (hn : ∀ a, f ≤ a → a < f + 22 → ¬ W a) : FR G h1 f := by
  obtain ⟨⟨A0, kk, a⟩, ⟨g, b, c⟩, d⟩ := H
  exact ⟨⟨A0, kk, C.at hw a (hn _ (by omega) (by omega))⟩, ⟨g, C.at hw b (hn _ (by omega) (by omega)), c⟩, fun i hi => (d i hi).elim fun r hr => ⟨r, hr.c C hw (hn _ (by omega) (by omega)) (hn _ (by omega) (by omega))⟩⟩
/-- readers at rest -/
def RR (G : mv_G) (h : mv_H) (x : Nat) : Prop := (∃ v0, h.2.2 (x + 3) = some (.inr (4, [.ref (x + 4), v0]))) ∧ (∃ s p i, h.2.2 (x + 4) = some (.inr (2, [.ref s, .int p, .int i]))) ∧ (∃ cv, h.2.2 (x + 5) = some (.inr (7, [.ref (x + 6), va_rf cv]))) ∧ ∃ s p i, h.2.2 (x + 6) = some (.inr (2, [.ref s, .int p, .int i]))
theorem RR.c {x : Nat} (H : RR G h x) (C : chg G h h1 W) (hw : mv_wf h) (hn : ∀ a, x + 3 ≤ a → a < x + 7 → ¬ W a) : RR G h1 x := by
  obtain ⟨⟨v0, a⟩, ⟨s, p, i, b⟩, ⟨cv, c⟩, ⟨s', p', i', d⟩⟩ := H
  exact ⟨⟨v0, C.at hw a (hn _ (by omega) (by omega))⟩, ⟨s, p, i, C.at hw b (hn _ (by omega) (by omega))⟩, ⟨cv, C.at hw c (hn _ (by omega) (by omega))⟩, ⟨s', p', i', C.at hw d (hn _ (by omega) (by omega))⟩⟩
abbrev cTP (x cur spa : Nat) (qp : Option Nat) (pl : Int32) : va_E := .inr (14, [.ref (x + 1), .ref (x + 3), .ref (x + 5), .ref (x + 7), .ref (x + 29), .ref (x + 31), .ref cur, .ref spa, va_rf qp, .int pl])
/-- a builder of the object -/
def BB (G : mv_G) (h : mv_H) (b v0 y0 v cap : Nat) (q : List Nat) : Prop := mv_sb G h b v cap q ∧ cap ≤ 700 ∧ nsv h v ∧ (v = v0 ∨ y0 ≤ v)
/-- all of the object; what lies from x + 199 to y0 isn't its own -/
def TPx (G : mv_G) (h : mv_H) (x y0 : Nat) (A : aS) (cur spa v1 c1 v2 c2 : Nat) (q2 : List Nat) (qp : Option Nat) : Prop :=
  h.2.2 x = some (cTP x cur spa qp A.2.2.2.2) ∧ ((cur = x + 33 ∧ spa = x + 116) ∨ (cur = x + 116 ∧ spa = x + 33)) ∧ BB G h (x + 1) (x + 2) y0 v1 c1 A.1 ∧ BB G h (x + 31) (x + 32) y0 v2 c2 q2 ∧ v1 ≠ v2 ∧ RR G h x ∧ FR G h (x + 7) ∧ hrw G h (x + 29) A.2.2.2.1 ∧ DK G h cur A.2.1 ∧ (∃ src cnt V I, hdc G h spa src cnt V I) ∧ QK G h y0 v1 v2 A.2.2.1 qp ∧ lE G h ∧ (mv_wf h ∧ nsr h (x + 199) y0) ∧ tOk A.1 ∧ (G.2.2.1 ≤ x ∧ x + 199 ≤ y0 ∧ y0 ≤ h.1) ∧ (∀ j, j ∈ A.2.2.2.1 → j < (dOf A.2.1).1)
/-- with what it may still cost -/
def TP (G : mv_G) (h : mv_H) (x y0 : Nat) (A : aS) (nc ns : Nat) : Prop := ∃ cur spa v1 c1 v2 c2 q2 qp, TPx G h x y0 A cur spa v1 c1 v2 c2 q2 qp ∧ h.1 + (700 - c1) + (700 - c2) ≤ nc ∧ h.2.1 + 2 * (700 - c1) + 2 * (700 - c2) ≤ ns
/-- what isn't the object's stays -/
def oth (h h1 : mv_H) (x y0 : Nat) : Prop := ∀ a, (x + 199 ≤ a ∨ a < x) → a < y0 → h1.2.2 a = h.2.2 a
theorem QK.c {y0 v1 v2 v1' v2' : Nat} {o : Option (List Nat)} {qp : Option Nat} (H : QK G h y0 v1 v2 o qp) (C : chg G h h1 W) (hw : ∀ a, y0 ≤ a → a < h.1 → W a → a = v1 ∨ a = v2) (n1 : v1' = v1 ∨ h.1 ≤ v1') (n2 : v2' = v2 ∨ h.1 ≤ v2') : QK G h1 y0 v1' v2' o qp := by
  rcases H with H | ⟨tq, d, n, a, sg, qx, qy, e1, e2, e3, e4, e5, e6, e7, e8⟩
  · exact Or.inl H
  · refine Or.inr ⟨tq, d, n, a, sg, qx, qy, e1, e2, e3, KP_fr.1 _ _ _ _ _ _ e4 (fun b x1 x2 => C.2.1 b (by omega) (fun z => ?_)) C.2.2.1, e5, e6, by have := C.1.2.2; omega, by omega, by omega⟩
    rcases hw b (by omega) (by omega) z with w | w <;> omega
end TP
