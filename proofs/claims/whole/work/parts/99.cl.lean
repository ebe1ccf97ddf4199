section HN
variable {G : mv_G} {α : Type}
theorem str_set {h : mv_H} {a ci : Nat} {fs : List Value} {e : va_E} (ha : h.2.2 a = some (.inr (ci, fs))) (hc : ci ≠ 0 ∧ ci ≠ 1000) : ∀ s t, mv_str G h s t → mv_str G (mv_set h a e) s t := fun s t hs => hs.set ha hc.1 hc.2
theorem hAll_nx {T : HE dCnd} (hT : hFr G T) : hNx 11 3 (hAll T) := fun h x y a nx d ⟨a1, a2, ds, fr, la, pa, le, rel, ri, b1, b2, b3⟩ =>
  ⟨a1, a2, _, b1, rfl, fun nx' => ⟨a1, a2, ds, fr, la, pa, le, rel, ri, hs_s, b2.fr hT (fun b x1 x2 => hs_n (by omega)) (str_set b1 (by decide)), b3⟩⟩
theorem hAny_nx {T : HE dCnd} (hT : hFr G T) : hNx 11 3 (hAny T) := fun h x y a nx d ⟨a1, a2, ds, fr, la, pa, le, rel, ri, b1, b2, b3⟩ =>
  ⟨a1, a2, _, b1, rfl, fun nx' => ⟨a1, a2, ds, fr, la, pa, le, rel, ri, hs_s, b2.fr (hAll_fr hT) (fun b x1 x2 => hs_n (by omega)) (str_set b1 (by decide)), b3⟩⟩
theorem hSel_nx {lo : Option HV} (hL : hLo G lo) : hNx 10 8 (hSel G lo) := fun h x y a nx d ⟨a1, a2, kd, nm, f, to, st, hf, ht, cd, b1, b2⟩ =>
  ⟨a1, a2, _, b1, rfl, fun nx' => ⟨a1, a2, kd, nm, f, to, st, hf, ht, cd, hs_s, by
    rcases b2 with ⟨e, u, z1, z2⟩ | b2 | b2 | b2 | ⟨e, b, c, L, z1, z2, z3, z4⟩
    · exact Or.inl ⟨e, u, str_set b1 (by decide) _ _ z1, z2⟩
    · exact Or.inr (Or.inl b2)
    · exact Or.inr (Or.inr (Or.inl b2))
    · exact Or.inr (Or.inr (Or.inr (Or.inl b2)))
    · exact Or.inr (Or.inr (Or.inr (Or.inr ⟨e, b, c, L, z1, z2, (hAny_fr (hL L z2).1).1 _ _ _ _ _ _ z3 (fun b x1 x2 => hs_n (by omega)) (str_set b1 (by decide)), z4⟩)))⟩⟩
theorem hSeg_nx {lo : Option HV} (hL : hLo G lo) : hNx 9 3 (hSeg G lo) := fun h x y a nx d ⟨a1, a2, fr, la, ss, b1, b2, b3⟩ =>
  ⟨a1, a2, _, b1, rfl, fun nx' => ⟨a1, a2, fr, la, ss, hs_s, b2.fr (hSel_fr hL) (fun b x1 x2 => hs_n (by omega)) (str_set b1 (by decide)), b3⟩⟩
theorem hTst_nx {lo : Option HV} (hL : hLo G lo) : hNx 11 3 (hTst G lo) := fun h x y a nx d H => by
  rcases H with ⟨L, e1, e2⟩ | ⟨a1, a2, kd, fr, la, pa, le, rel, ri, b1, b2⟩
  · obtain ⟨x1, x2, fs, x3, x4, x5⟩ := hAny_nx (hL L e1).1 h x y a nx d e2
    exact ⟨x1, x2, fs, x3, x4, fun nx' => Or.inl ⟨L, e1, x5 nx'⟩⟩
  · refine ⟨a1, a2, _, b1, rfl, fun nx' => Or.inr ⟨a1, a2, kd, fr, la, pa, le, rel, ri, hs_s, ?_⟩⟩
    rcases b2 with ⟨e, b, c, L, z1, z2, z3, z4⟩ | ⟨e, b, p, z1, z2, z3⟩ | ⟨e, c1, c2, d1, d2, r, z1, z2, z3, z4, z5⟩
    · exact Or.inl ⟨e, b, c, L, z1, z2, (hL L z2).1.1 _ _ _ _ _ _ z3 (fun b x1 x2 => hs_n (by omega)) (str_set b1 (by decide)), z4⟩
    · exact Or.inr (Or.inl ⟨e, b, p, z1, (hPth_fr hL).1 _ _ _ _ _ _ z2 (fun b x1 x2 => hs_n (by omega)) (str_set b1 (by decide)), z3⟩)
    · exact Or.inr (Or.inr ⟨e, c1, c2, d1, d2, r, z1, z2, (hThg_fr hL).1 _ _ _ _ _ _ z3 (fun b x1 x2 => hs_n (by omega)) (str_set b1 (by decide)), (hThg_fr hL).1 _ _ _ _ _ _ z4 (fun b x1 x2 => hs_n (by omega)) (str_set b1 (by decide)), z5⟩)
/-- one more at a list's end -/
theorem hOL.add {E : HE α} {ci k : Nat} (hE : hFr G E) (hN : hNx ci k E) (hci : ci ≠ 0 ∧ ci ≠ 1000) {h h2 : mv_H} {ds : List α} {d : α} {x y z a : Nat} {fr la : Option Nat} (H : hOL E h ds x y fr la) (hA : E h y z a (none, d)) (hz : y ≤ z)
    (h2e : (la = none → ∀ b, x ≤ b → b < z → h2.2.2 b = h.2.2 b) ∧ (∀ l, la = some l → ∃ fs, h.2.2 l = some (.inr (ci, fs)) ∧ ∀ b, x ≤ b → b < z → h2.2.2 b = (mv_set h l (.inr (ci, fs.set k (.ref a)))).2.2 b)) (m : ∀ s t, mv_str G h s t → mv_str G h2 s t) : hOL E h2 (ds ++ [d]) x z (if la = none then some a else fr) (some a) := by
  have hxy := H.le
  rcases H with ⟨rfl, rfl, rfl, a4⟩ | ⟨i, d0, l, mm, rfl, e2, e3, e4, e5, rfl⟩
  · refine Or.inr ⟨[], d, a, y, rfl, ⟨rfl, hxy⟩, hxy, hz, ?_, rfl⟩
    exact hE.1 _ _ _ _ _ _ hA (fun b x1 x2 => h2e.1 rfl b (by omega) x2) m
  · obtain ⟨fs, g1, g2⟩ := h2e.2 l rfl
    obtain ⟨x1, x2, fs', x3, x4, x5⟩ := hN _ _ _ _ _ _ e5
    rw [g1] at x3
    cases x3
    rw [if_neg (by simp)]
    refine Or.inr ⟨i ++ [d0], d, a, y, rfl, (e2.fr hE m (fun b y1 y2 => ?_)).app hE ⟨l, y, some a, rfl, e4, ?_, rfl, Nat.le_refl _⟩, hxy, hz, ?_, rfl⟩
    · rw [g2 b y1 (by omega), hs_n (by omega)]
    · have m' : ∀ s t, mv_str G (mv_set h l (.inr (ci, fs.set k (.ref a)))) s t → mv_str G h2 s t := fun s t hs => by
        refine m s t ?_
        have := str_set (G := G) (h := mv_set h l (.inr (ci, fs.set k (.ref a)))) (a := l) (ci := ci) (fs := fs.set k (.ref a)) (e := .inr (ci, fs)) hs_s hci s t hs
        rw [mv_set_set, mv_set_self g1] at this
        exact this
      exact hE.1 _ _ _ _ _ _ (x5 (some a)) (fun b y1 y2 => g2 b (by omega) (by omega)) m'
    · exact hE.1 _ _ _ _ _ _ hA (fun b y1 y2 => by rw [g2 b (by omega) y2, hs_n (by omega)]) m
end HN
