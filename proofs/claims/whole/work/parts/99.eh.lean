section RG
variable {G : mv_G} {h h1 : mv_H} {x y0 nc ns : Nat} {A : aS}
/-- what isn't the object's may change -/
theorem TP.rg (T : TP G h x y0 A nc ns) (e1 : h1.1 = h.1) (e2 : h1.2.1 = h.2.1) (k : ∀ a, (a < x + 199 ∨ y0 ≤ a) → h1.2.2 a = h.2.2 a) (n : ∀ (a : Nat) (fs : List Value), x + 199 ≤ a → a < y0 → h.2.2 a ≠ some (.inr (0, fs)) ∧ h1.2.2 a ≠ some (.inr (0, fs))) : TP G h1 x y0 A nc ns := by
  obtain ⟨cur, spa, v1, c1, v2, c2, q2, qp, T, m1, m2⟩ := T
  have hlt := T.lt
  obtain ⟨a1, a2, a3, a4, a5, a6, a7, a8, a9, ⟨src, cnt, V, I, a10⟩, a11, a12, ⟨a13, a13'⟩, a14, ⟨a15, a16, a17⟩, a18⟩ := T
  have hv1 := a3.2.2.2
  have hv2 := a4.2.2.2
  have C : chg G h h1 (fun a => x + 199 ≤ a ∧ a < y0) := by
    refine ⟨⟨fun a ha => ?_, by omega, by omega⟩, fun a _ na => k a (by omega), fun s t z => ?_, fun a q y z => ?_⟩
    · rw [k a (by omega)]
      exact a13 a (by omega)
    · obtain ⟨q, u, w, f, b1, b2, b3⟩ := z
      refine ⟨q, u, w, f, ?_, ?_, b3⟩
      · rw [k s (Nat.lt_or_ge s (x + 199) |>.elim Or.inl fun g1 => (Nat.lt_or_ge s y0).elim (fun g2 => absurd b1 (n s _ g1 g2).1) Or.inr)]
        exact b1
      · rw [k q (by have := a13' s q _ b1; omega)]
        exact b2
    · rcases Nat.lt_or_ge a (x + 199) with g | g
      · rw [k a (Or.inl g)] at z
        exact Or.inl z
      · rcases Nat.lt_or_ge a y0 with g2 | g2
        · exact absurd z (n a _ g g2).2
        · rw [k a (Or.inr g2)] at z
          exact Or.inl z
  refine ⟨cur, spa, v1, c1, v2, c2, q2, qp, ⟨C.at a13 a1 (by omega), a2, ⟨a3.1.c C a13 (by omega) (by omega), a3.2.1, a3.2.2.1.c C hlt.1, hv1⟩, ⟨a4.1.c C a13 (by omega) (by omega), a4.2.1, a4.2.2.1.c C hlt.2, hv2⟩, a5, a6.c C a13 (fun a x1 x2 => by omega), a7.c C a13 (fun a x1 x2 => by omega), a8.c C a13 (by omega) (by omega), a9.c C a13 (fun a x1 x2 => by omega), ⟨src, cnt, V, I, a10.c C a13 (fun a x1 x2 => by omega)⟩, a11.c C (fun a x1 x2 x3 => by omega) (Or.inl rfl) (Or.inl rfl), a12.c C a13 (fun a ha => by omega), ⟨C.1.1, a13'.c C a17⟩, a14, ⟨a15, a16, by omega⟩, a18⟩, by omega, by omega⟩
/-- a new object, and more cells behind it -/
theorem TPx.gr (T : TPx G h x (x + 199) A0 (x + 33) (x + 116) (x + 2) 16 (x + 32) 16 [] none) (hs : ∀ (a q : Nat) (y : List Value), h.2.2 a = some (.inr (0, .ref q :: y)) → q < x) (hy : x + 199 ≤ y0) (hw : mv_wf h1) (e1 : y0 ≤ h1.1) (e0 : h.1 ≤ h1.1) (hh : h.1 = x + 199) (k : ∀ a, a < x + 199 → h1.2.2 a = h.2.2 a) (n : ∀ (a : Nat) (fs : List Value), x + 199 ≤ a → h1.2.2 a ≠ some (.inr (0, fs))) (m1 : h1.1 + 684 + 684 ≤ nc) (m2 : h1.2.1 + 1368 + 1368 ≤ ns) : TP G h1 x y0 A0 nc ns := by
  have hlt := T.lt
  obtain ⟨a1, a2, a3, a4, a5, a6, a7, a8, a9, ⟨src, cnt, V, I, a10⟩, a11, a12, ⟨a13, a13'⟩, a14, ⟨a15, a16, a17⟩, a18⟩ := T
  have sg : ∀ (a : Nat) (fs : List Value), h1.2.2 a = some (.inr (0, fs)) → h.2.2 a = some (.inr (0, fs)) := fun a fs z => by
    rcases Nat.lt_or_ge a (x + 199) with g | g
    · rw [k a g] at z
      exact z
    · exact absurd z (n a _ g)
  have C : chg G h h1 (fun _ => False) := by
    refine ⟨⟨hw, by omega, e0⟩, fun a ha _ => k a (by omega), fun s t z => ?_, fun a q y z => Or.inl (sg a _ z)⟩
    obtain ⟨q, u, w, f, b1, b2, b3⟩ := z
    refine ⟨q, u, w, f, ?_, ?_, b3⟩
    · rw [k s (by have := mv_wf_lt a13 b1; omega)]
      exact b1
    · rw [k q (by have := mv_wf_lt a13 b2; omega)]
      exact b2
  refine ⟨x + 33, x + 116, x + 2, 16, x + 32, 16, [], none, ⟨C.at a13 a1 (fun z => z), a2, ⟨a3.1.c C a13 (fun z => z) (fun z => z), a3.2.1, a3.2.2.1.c C hlt.1, Or.inl rfl⟩, ⟨a4.1.c C a13 (fun z => z) (fun z => z), a4.2.1, a4.2.2.1.c C hlt.2, Or.inl rfl⟩, a5, a6.c C a13 (fun _ _ _ z => z), a7.c C a13 (fun _ _ _ z => z), a8.c C a13 (fun z => z) (fun z => z), a9.c C a13 (fun _ _ _ z => z), ⟨src, cnt, V, I, a10.c C a13 (fun _ _ _ z => z)⟩, Or.inl ⟨rfl, rfl⟩, a12.c C a13 (fun _ _ z => z), ⟨C.1.1, fun a q y z => Or.inl (by have := hs a q y (sg a _ z); omega)⟩, a14, ⟨a15, hy, e1⟩, a18⟩, m1, m2⟩
end RG
