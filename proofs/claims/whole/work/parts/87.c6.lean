/-! the reader of documents: what it finds, what it changes -/
/-- texts that the code holds -/
def envL (G : mv_G) (h : mv_H) : Prop := mv_env G h ∧ (∃ z0 z1 z2 z3, mv_lits G h z0 z1 z2 z3) ∧ (∃ z, mv_lt G RX1 22 "" z ∧ mv_str G h z []) ∧ (∃ z, mv_lt G RX2 29 "" z ∧ mv_str G h z [])
theorem envL.k {G : mv_G} {h h1 : mv_H} (e : envL G h) (k : ksT G h h1) (hw : mv_wf h1) (hb : G.2.2.1 ≤ h1.1) : envL G h1 := by
  obtain ⟨⟨⟨z, a1, a2⟩, _, _⟩, ⟨z0, z1, z2, z3, ⟨b1, b2⟩, ⟨c1, c2⟩, ⟨d1, d2⟩, e1, e2⟩, ⟨y, f1, f2⟩, ⟨x, g1, g2⟩⟩ := e
  exact ⟨⟨⟨z, a1, k.s a2⟩, hw, hb⟩, ⟨z0, z1, z2, z3, ⟨b1, k.s b2⟩, ⟨c1, k.s c2⟩, ⟨d1, k.s d2⟩, e1, k.s e2⟩, ⟨y, f1, k.s f2⟩, ⟨x, g1, k.s g2⟩⟩
/-- at most k cells more; of the old ones the document's and the cursor alone -/
def rst (G : mv_G) (h h1 : mv_H) (A c k : Nat) : Prop := hst G h h1 (fun a => inD A a ∨ a = c) k (10 * k) ∧ ksT G h h1
theorem rst.tr {G : mv_G} {h h1 h2 : mv_H} {A c k k1 k2 : Nat} (a : rst G h h1 A c k1) (b : rst G h1 h2 A c k2) (hk : k1 + k2 ≤ k) : rst G h h2 A c k := ⟨a.1.tr b.1 (fun _ _ z => z) (fun _ _ z => z) hk (by omega), a.2.tr b.2⟩
theorem rst.mn {G : mv_G} {h h1 : mv_H} {A c k k1 : Nat} (a : rst G h h1 A c k1) (hk : k1 ≤ k) : rst G h h1 A c k := ⟨a.1.mn (fun _ _ z => z) hk (by omega), a.2⟩
theorem rst.rf {G : mv_G} {h : mv_H} {A c k : Nat} (hw : mv_wf h) (hb : G.2.2.1 ≤ h.1) : rst G h h A c k := ⟨hst.rf hw hb, ksT.rf⟩
def RS (G : mv_G) (h : mv_H) (r c A s : Nat) (t : List Nat) (p : Nat) (D : dS) : Prop := h.2.2 r = some (.inr (4, [.ref c, .ref A])) ∧ h.2.2 c = some (curE s p (-1)) ∧ (∃ V I, hdc G h A s (nI D.1) V I ∧ dcD G h D V I) ∧ mv_str G h s t ∧ envL G h ∧ ((r < A ∨ A + 83 ≤ r) ∧ (c < A ∨ A + 83 ≤ c) ∧ r ≠ c ∧ G.2.2.1 ≤ c) ∧ p ≤ t.length ∧ D.1 ≤ 40
theorem RS.wf {G : mv_G} {h : mv_H} {r c A s : Nat} {t : List Nat} {p : Nat} {D : dS} (H : RS G h r c A s t p D) : mv_wf h ∧ G.2.2.1 ≤ h.1 := H.2.2.2.2.1.1.2
theorem RS.mv {G : mv_G} {h h1 : mv_H} {r c A s k : Nat} {t : List Nat} {p p' : Nat} {D D' : dS} (H : RS G h r c A s t p D) (R : rst G h h1 A c k) (hc : h1.2.2 c = some (curE s p' (-1))) (hd : ∃ V I, hdc G h1 A s (nI D'.1) V I ∧ dcD G h1 D' V I) (hp : p' ≤ t.length) (h40 : D'.1 ≤ 40) : RS G h1 r c A s t p' D' := by
  obtain ⟨a1, a2, a3, a4, a5, a6, a7, a8⟩ := H
  refine ⟨R.1.at a5.1.2.1 a1 ?_, hc, hd, R.2.s a4, a5.k R.2 R.1.1 R.1.2.1, a6, hp, h40⟩
  rintro (⟨x, y⟩ | x)
  · omega
  · exact a6.2.2.1 x
theorem RS.cur {G : mv_G} {h : mv_H} {r c A s : Nat} {t : List Nat} {p p' : Nat} {D : dS} (H : RS G h r c A s t p D) (hp : p' ≤ t.length) : RS G (mv_set h c (curE s p' (-1))) r c A s t p' D ∧ rst G h (mv_set h c (curE s p' (-1))) A c 0 := by
  obtain ⟨hw, hb⟩ := H.wf
  have R : rst G h (mv_set h c (curE s p' (-1))) A c 0 := ⟨hst.set hw hb H.2.1 (Or.inr rfl), ksT.set H.2.1 (nTx_o (by decide))⟩
  obtain ⟨V, I, d1, d2⟩ := H.2.2.1
  exact ⟨H.mv R hs_s ⟨V, I, d1.els H.2.2.2.2.2.1.2.1, d2.k R.2⟩ hp H.2.2.2.2.2.2.2, R⟩
theorem rst.made {G : mv_G} {h h1 : mv_H} {A c : Nat} (hw : mv_wf h) (hb : G.2.2.1 ≤ h.1) (m : mv_made h h1) : rst G h h1 A c 2 := by
  obtain ⟨m1, m2, m3, m4, m5, m6⟩ := m
  refine ⟨⟨m6.1, by omega, m1, m2, m3, by omega, fun a ha _ => m5 a ha⟩, fun q e hq _ => ?_, m1, fun a q x hq => ?_⟩
  · rw [m5 q (mv_wf_lt hw hq)]
    exact hq
  · by_cases ha : a < h.1
    · rw [m5 a ha] at hq; exact Or.inl hq
    · exact Or.inr (m6.2 a q x (by omega) hq)
theorem RS.made {G : mv_G} {h h1 : mv_H} {r c A s : Nat} {t : List Nat} {p : Nat} {D : dS} (H : RS G h r c A s t p D) (m : mv_made h h1) : RS G h1 r c A s t p D ∧ rst G h h1 A c 2 := by
  obtain ⟨hw, hb⟩ := H.wf
  have R : rst G h h1 A c 2 := rst.made hw hb m
  obtain ⟨V, I, d1, d2⟩ := H.2.2.1
  have hA : A + 83 ≤ h.1 := by
    have := mv_wf_lt hw (d1.2.2.2.2.1 39 (by omega)).1
    omega
  refine ⟨H.mv R (by rw [m.2.2.2.2.1 c (mv_wf_lt hw H.2.1)]; exact H.2.1) ⟨V, I, d1.fr (fun a h1 h2 => m.2.2.2.2.1 a (by omega)), d2.k R.2⟩ H.2.2.2.2.2.2.1 H.2.2.2.2.2.2.2, R⟩
/-- the text was ill at w -/
def IL (G : mv_G) (h h1 : mv_H) (r c A s w k : Nat) : Prop := h1.2.2 r = some (.inr (4, [.ref c, .ref A])) ∧ (∃ p, h1.2.2 c = some (.inr (2, [.ref s, .int p, .int (nI w)]))) ∧ (∃ cnt V I, hdc G h1 A s cnt V I) ∧ rst G h h1 A c k
theorem IL.pre {G : mv_G} {h h1 h2 : mv_H} {r c A s w k k1 k2 : Nat} (R : rst G h h1 A c k1) (i : IL G h1 h2 r c A s w k2) (hk : k1 + k2 ≤ k) : IL G h h2 r c A s w k := ⟨i.1, i.2.1, i.2.2.1, R.tr i.2.2.2 hk⟩
theorem RS.ill {G : mv_G} {h : mv_H} {r c A s w : Nat} {t : List Nat} {p p'' : Nat} {D : dS} (H : RS G h r c A s t p D) : IL G h (thr (mv_set h c (curE s p'' (nI w)))) r c A s w 1 := by
  obtain ⟨hw, hb⟩ := H.wf
  have R : rst G h (mv_set h c (curE s p'' (nI w))) A c 0 := ⟨hst.set hw hb H.2.1 (Or.inr rfl), ksT.set H.2.1 (nTx_o (by decide))⟩
  have R2 : rst G (mv_set h c (curE s p'' (nI w))) (thr (mv_set h c (curE s p'' (nI w)))) A c 1 := ⟨(hst.thr R.1.1 R.1.2.1).mn (fun _ _ z => z) (by omega) (by omega), ksT.thr⟩
  obtain ⟨V, I, d1, d2⟩ := H.2.2.1
  refine ⟨?_, ⟨nI p'', hs_s⟩, ⟨nI D.1, V, I, d1.els H.2.2.2.2.2.1.2.1⟩, R.tr R2 (by omega)⟩
  show (mv_set h c _).2.2 r = _
  rw [hs_n H.2.2.2.2.2.1.2.2.1]
  exact H.1
theorem RS.doc {G : mv_G} {h h1 : mv_H} {r c A s : Nat} {t : List Nat} {p : Nat} {D D' : dS} (H : RS G h r c A s t p D) (m : dst G h h1 A) (hd : ∃ V I, hdc G h1 A s (nI D'.1) V I ∧ dcD G h1 D' V I) (h40 : D'.1 ≤ 40) : RS G h1 r c A s t p D' ∧ rst G h h1 A c 0 := by
  obtain ⟨hw, hb⟩ := H.wf
  have R : rst G h h1 A c 0 := ⟨m.1.mn (fun a _ z => Or.inl z) (by omega) (by omega), m.2⟩
  exact ⟨H.mv R (m.1.at hw H.2.1 (fun z => by have := H.2.2.2.2.2.1.2.1; omega)) hd H.2.2.2.2.2.2.1 h40, R⟩
