/-! the finder: its state, what it changes -/
theorem dI.kids {t : List Nat} {g : Nat → Nat} {D : dS} (hI : dI t g D) {n : Nat} (hn : n < D.1) : (∀ k, k ∈ nki (D.2 n) → k < D.1) ∧ (nki (D.2 n)).length ≤ 40 ∧ (isB (nkd (D.2 n)) → nsz (D.2 n) = nI (nki (D.2 n)).length) ∧ (¬ isB (nkd (D.2 n)) → nki (D.2 n) = []) := by
  have e := hI.2.2.1 n hn
  refine ⟨fun k hk => ?_, ?_, fun hb => ?_, fun hb => ?_⟩
  · rw [e] at hk; exact (kF_m.mp hk).1
  · rw [e]
    unfold kF
    have := List.length_filter_le (fun k => nou (D.2 k) == some n) (List.range D.1)
    rw [List.length_range] at this
    have := hI.1.1
    omega
  · refine hI.2.2.2.1 n hn ⟨fun z => ?_, fun z => ?_⟩ <;> rcases hb with w | w <;> rw [w] at z <;> exact absurd z (by decide)
  · rw [e]
    cases hc : kF D n D.1 with
    | nil => rfl
    | cons k r =>
      have hk : k ∈ kF D n D.1 := by rw [hc]; exact List.mem_cons_self
      obtain ⟨k1, k2⟩ := kF_m.mp hk
      exact absurd (hI.2.1 k k1 n k2).2.1 hb
/-- rows from 4 * e cells on, the finder itself and the cells from x to y are changed -/
def FX (G : mv_G) (h h1 : mv_H) (f e x y : Nat) : Prop := (h1.1 = h.1 ∧ h1.2.1 = h.2.1) ∧ (∀ a, a ≠ f → (a < f + 2 + 4 * e ∨ f + 22 ≤ a) → (a < x ∨ y ≤ a) → h1.2.2 a = h.2.2 a) ∧ ksT G h h1
theorem FX.rf {G : mv_G} {h : mv_H} {f e x y : Nat} : FX G h h f e x y := ⟨⟨rfl, rfl⟩, fun _ _ _ _ => rfl, ksT.rf⟩
theorem FX.tr {G : mv_G} {h h1 h2 : mv_H} {f e x y : Nat} (a : FX G h h1 f e x y) (b : FX G h1 h2 f e x y) : FX G h h2 f e x y := ⟨⟨b.1.1.trans a.1.1, b.1.2.trans a.1.2⟩, fun q q1 q2 q3 => (b.2.1 q q1 q2 q3).trans (a.2.1 q q1 q2 q3), a.2.2.tr b.2.2⟩
theorem FX.mn {G : mv_G} {h h1 : mv_H} {f e e' x y x' y' : Nat} (a : FX G h h1 f e' x' y') (he : e ≤ e') (hx : x ≤ x') (hy : y' ≤ y) : FX G h h1 f e x y := ⟨a.1, fun q q1 q2 q3 => a.2.1 q q1 (by omega) (by omega), a.2.2⟩
def FS (G : mv_G) (h : mv_H) (f A : Nat) (t : List Nat) (D : dS) (kk : Int32) : Prop := h.2.2 f = some (.inr (5, [.ref (f + 1), .ref A, .int kk])) ∧ (∃ g, h.2.2 (f + 1) = some (.inl (mv_t G 5, 10, .inr (.inr (.inr (.inr g))))) ∧ ∀ i, i < 10 → g i = some (f + 2 + 2 * i)) ∧ (∀ i, i < 10 → ∃ row, hrw G h (f + 2 + 2 * i) row) ∧ DH G h A t D ∧ (mv_wf h ∧ G.2.2.1 ≤ h.1) ∧ ((f + 22 ≤ A ∨ A + 83 ≤ f) ∧ G.2.2.1 ≤ f) ∧ ∃ z, mv_lt G RX3 240 "" z ∧ mv_str G h z []
/-- a row of nodes -/
def RO (G : mv_G) (h : mv_H) (f : Nat) (D : dS) (i : Nat) (row : List Nat) : Prop := hrw G h (f + 2 + 2 * i) row ∧ ∀ j, j ∈ row → j < D.1
theorem ksT.of {G : mv_G} {h h1 : mv_H} {W : Nat → Prop} (k : hst G h h1 W 0 0) (hw : mv_wf h) (w0 : ∀ a e, W a → h.2.2 a = some e → ¬ isTx G e) (w1 : ∀ a fs, W a → h1.2.2 a ≠ some (.inr (0, fs))) : ksT G h h1 := by
  have hn : h1.1 = h.1 := by have := k.2.2.1; have := k.2.2.2.1; omega
  refine ⟨fun q e hq ht => ?_, k.2.2.1, fun a q x hq => ?_⟩
  · exact k.at hw hq (fun z => w0 q e z hq ht)
  · by_cases c : W a
    · exact absurd hq (w1 a _ c)
    · have : a < h.1 := by have := mv_wf_lt k.1 hq; omega
      rw [k.2.2.2.2.2.2 a this c] at hq
      exact Or.inl hq
section FN
variable {l : Launch} {G : mv_G} {d f A : Nat} {t : List Nat} {D : dS} {kk : Int32} {h h1 : mv_H}
theorem hrw.nt {R : Nat} {row : List Nat} (hT : mv_t G 0 ≠ mv_t G 1) (H : hrw G h R row) : (∀ a e, inR R a → h.2.2 a = some e → ¬ isTx G e) ∧ ∀ a fs, inR R a → h.2.2 a ≠ some (.inr (0, fs)) := by
  obtain ⟨a1, ⟨g, a2, _⟩, _⟩ := H
  refine ⟨fun a e ha he => ?_, fun a fs ha he => ?_⟩
  · rcases ha with rfl | rfl
    · rw [a1] at he; cases he; exact nTx_o (by decide)
    · rw [a2] at he; cases he; exact nTx_a hT
  · rcases ha with rfl | rfl
    · rw [a1] at he; cases he
    · rw [a2] at he; cases he
/-- a row is changed -/
theorem FS.row {i : Nat} {row row' : List Nat} (hT : mv_t G 0 ≠ mv_t G 1) (H : FS G h f A t D kk) (hi : i < 10) (k : hst G h h1 (inR (f + 2 + 2 * i)) 0 0) (h0 : hrw G h (f + 2 + 2 * i) row) (h2 : hrw G h1 (f + 2 + 2 * i) row') : FS G h1 f A t D kk ∧ (∀ e x y, 2 * e ≤ i → FX G h h1 f e x y) ∧ ∀ j r, j < 10 → j ≠ i → hrw G h (f + 2 + 2 * j) r → hrw G h1 (f + 2 + 2 * j) r := by
  obtain ⟨a1, ⟨g, a2, a3⟩, a4, a5, a6, a7, z, a8, a9⟩ := H
  have hn : h1.1 = h.1 ∧ h1.2.1 = h.2.1 := by have := k.2.2.1; have := k.2.2.2.1; have := k.2.2.2.2.1; have := k.2.2.2.2.2.1; omega
  have kt : ksT G h h1 := ksT.of k a6.1 (h0.nt hT).1 (h2.nt hT).2
  have same : ∀ a, a ≠ f + 2 + 2 * i → a ≠ f + 2 + 2 * i + 1 → h1.2.2 a = h.2.2 a := fun a n1 n2 => by
    by_cases c : a < h.1
    · exact k.2.2.2.2.2.2 a c (fun z => z.elim n1 n2)
    · rw [a6.1 a (by omega), k.1 a (by omega)]
  obtain ⟨s0, V0, I0, d1, d2, d3⟩ := id a5
  refine ⟨⟨by rw [same f (by omega) (by omega)]; exact a1, ⟨g, by rw [same (f + 1) (by omega) (by omega)]; exact a2, a3⟩, fun j hj => ?_, a5.m (fun a x1 x2 => same a (by omega) (by omega)) (fun s t hs => kt.s hs), ⟨k.1, k.2.1⟩, a7, z, a8, kt.s a9⟩, fun e x y he => ⟨hn, fun a n1 n2 _ => same a (by omega) (by omega), kt⟩, fun j r hj hji hr => hr.fr (same _ (by omega) (by omega)) (same _ (by omega) (by omega))⟩
  by_cases c : j = i
  · subst c; exact ⟨row', h2⟩
  · obtain ⟨r, hr⟩ := a4 j hj
    exact ⟨r, hr.fr (same _ (by omega) (by omega)) (same _ (by omega) (by omega))⟩
/-- what comes of a piece of the finding -/
def bad (k : Nat) {β : Type} (z : eR β) : Prop := ∀ b j, z = some (b, j) → 1000000 < k + j
def EV (G : mv_G) (h : mv_H) (f A : Nat) (t : List Nat) (D : dS) (e x y : Nat) (Pr : mv_H → Prop) (k : Nat) {β : Type} (z : eR β) (V : β → mv_O → mv_H → Prop) (o : mv_O) (h1 : mv_H) : Prop :=
  (∃ b j, z = some (b, j) ∧ k + j ≤ 1000000 ∧ V b o h1 ∧ FS G h1 f A t D (nI (k + j)) ∧ FX G h h1 f e x y ∧ Pr h1) ∨
  (bad k z ∧ (∃ q, o = .inr (xUO, q)) ∧ ∃ h' kk, h1 = thr h' ∧ FS G h' f A t D kk ∧ FX G h h' f e x y ∧ Pr h')
theorem bad.b1 {k : Nat} {β γ : Type} {z : eR β} {g : β → eR γ} (hb : bad k z) : bad k (eB z g) := fun b j hz => by
  cases hx : z with
  | none => rw [hx] at hz; cases hz
  | some p =>
    obtain ⟨p1, p2⟩ := p
    have := hb p1 p2 hx
    rw [hx] at hz
    simp only [eB] at hz
    cases hy : g p1 with
    | none => rw [hy] at hz; cases hz
    | some q =>
      obtain ⟨q1, q2⟩ := q
      rw [hy] at hz
      cases hz
      omega
theorem bad.b2 {k : Nat} {β γ : Type} {z : eR β} {g : β → eR γ} {b : β} {j : Nat} (hz : z = some (b, j)) (hb : bad (k + j) (g b)) : bad k (eB z g) := fun c i hc => by
  rw [hz] at hc
  simp only [eB] at hc
  cases hy : g b with
  | none => rw [hy] at hc; cases hc
  | some q =>
    obtain ⟨q1, q2⟩ := q
    have := hb q1 q2 hy
    rw [hy] at hc
    cases hc
    omega
theorem eB_j {β γ : Type} {z : eR β} {g : β → eR γ} {b : β} {c : γ} {j i : Nat} (hz : z = some (b, j)) (hg : g b = some (c, i)) : eB z g = some (c, j + i) := by
  rw [hz]; simp only [eB, hg]
/-- a piece after a piece -/
theorem EV.bind {e x y k : Nat} {Pr : mv_H → Prop} {β γ : Type} {z : eR β} {g : β → eR γ} {b : β} {j : Nat} {V : γ → mv_O → mv_H → Prop} {o : mv_O} {h2 : mv_H} (hz : z = some (b, j)) (F : FX G h h1 f e x y) (E : EV G h1 f A t D e x y Pr (k + j) (g b) V o h2) : EV G h f A t D e x y Pr k (eB z g) V o h2 := by
  rcases E with ⟨c, i, e1, e2, e3, e4, e5, e6⟩ | ⟨e1, e2, h', kk, e3, e4, e5, e6⟩
  · exact Or.inl ⟨c, j + i, eB_j hz e1, by omega, e3, by rw [← Nat.add_assoc]; exact e4, F.tr e5, e6⟩
  · exact Or.inr ⟨bad.b2 hz e1, e2, h', kk, e3, e4, F.tr e5, e6⟩
theorem EV.mn {e x y k e' x' y' : Nat} {Pr Pr' : mv_H → Prop} {β : Type} {z : eR β} {V V' : β → mv_O → mv_H → Prop} {o : mv_O} {h2 : mv_H} (E : EV G h f A t D e' x' y' Pr' k z V' o h2) (he : e ≤ e') (hx : x ≤ x') (hy : y' ≤ y) (hp : ∀ h1, FX G h h1 f e' x' y' → Pr' h1 → Pr h1) (hv : ∀ b h1, FX G h h1 f e' x' y' → V' b o h1 → V b o h1) : EV G h f A t D e x y Pr k z V o h2 := by
  rcases E with ⟨c, i, e1, e2, e3, e4, e5, e6⟩ | ⟨e1, e2, h', kk, e3, e4, e5, e6⟩
  · exact Or.inl ⟨c, i, e1, e2, hv _ _ e5 e3, e4, e5.mn he hx hy, hp _ e5 e6⟩
  · exact Or.inr ⟨e1, e2, h', kk, e3, e4, e5.mn he hx hy, hp _ e5 e6⟩
theorem FS.w (H : FS G h f A t D kk) : mv_wf h ∧ G.2.2.1 ≤ h.1 := H.2.2.2.2.1
/-- one node is put into a row -/
theorem sp_fadd {i n : Nat} {row : List Nat} (hG : mv_ok G) (hX : mv_okX l G) (hT : mv_t G 0 ≠ mv_t G 1) (H : FS G h f A t D kk) (hi : i < 10) (hr : RO G h f D i row) (hn : n < D.1) (hd : 6 ≤ d) : mv_rq l G mX6_add (d + 1) 0 (mv_in [.ref (f + 2 + 2 * i), .int (nI n)] 2) [] h (fun o h1 => (addR row n = some (row ++ [n]) ∧ o = .inl none ∧ FS G h1 f A t D kk ∧ RO G h1 f D i (row ++ [n]) ∧ (∀ e x y, 2 * e ≤ i → FX G h h1 f e x y) ∧ ∀ j r, j < 10 → j ≠ i → hrw G h (f + 2 + 2 * j) r → hrw G h1 (f + 2 + 2 * j) r) ∨ (addR row n = none ∧ (∃ q, o = .inr (xUO, q)) ∧ h1 = thr h)) := by
  refine (sp_radd hG hX hr.1 H.w.1 H.w.2 hd).mono fun o h1 hq => ?_
  rcases hq with ⟨q1, q2, q3, q4⟩ | ⟨q1, q2, q3⟩
  · obtain ⟨r1, r2, r3⟩ := H.row hT hi q4 hr.1 q3
    refine Or.inl ⟨by unfold addR; rw [if_neg (by omega)], q2, r1, ⟨q3, fun j hj => ?_⟩, r2, r3⟩
    rcases List.mem_append.mp hj with w | w
    · exact hr.2 j w
    · rw [List.mem_singleton.mp w]; exact hn
  · exact Or.inr ⟨by unfold addR; rw [if_pos q1], ⟨_, q2⟩, q3.symm⟩
end FN
