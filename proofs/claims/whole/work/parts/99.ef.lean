/-! the law's own methods -/
abbrev cL_law : ByteArray := code
def yL_law : MethodName := ⟨RL, "law", "([I)Z"⟩
abbrev mL_law : mv_M := (yL_law, cL_law, 7, (some .boolean), [])
def vsl (G : mv_G) (h : mv_H) (a : Nat) (i : Int32) (x : Int64) (P : mv_H → Prop) : Prop := ∃ n f, h.2.2 a = some (.inl (mv_t G 3, n, .inr (.inl f))) ∧ G.2.2.1 ≤ a ∧ vp_in i n ∧ P (mv_set h a (.inl (mv_t G 3, n, .inr (.inl (vp_updL f i.toNatClampNeg x)))))
def vla (G : mv_G) (h : mv_H) (a : Nat) (i : Int32) (P : Int64 → Prop) : Prop := ∃ n f, h.2.2 a = some (.inl (mv_t G 3, n, .inr (.inl f))) ∧ vp_in i n ∧ P (f i.toNatClampNeg)
theorem vsl_e {G : mv_G} {h : mv_H} {a : Nat} {i : Int32} {x : Int64} {P : mv_H → Prop} (hq : vsl G h a i x P) : ∃ n f h1, h.2.2 a = some (.inl (mv_t G 3, n, .inr (.inl f))) ∧ G.2.2.1 ≤ a ∧ vp_in i n ∧ h1 = mv_set h a (.inl (mv_t G 3, n, .inr (.inl (vp_updL f i.toNatClampNeg x)))) ∧ P h1 := by
  obtain ⟨n, f, h1, h2, h3, h4⟩ := hq
  exact ⟨n, f, _, h1, h2, h3, rfl, h4⟩
theorem vla_e {G : mv_G} {h : mv_H} {a : Nat} {i : Int32} {P : Int64 → Prop} (hq : vla G h a i P) : ∃ n f x, h.2.2 a = some (.inl (mv_t G 3, n, .inr (.inl f))) ∧ vp_in i n ∧ x = f i.toNatClampNeg ∧ P x := by
  obtain ⟨n, f, h1, h2, h3⟩ := hq
  exact ⟨n, f, _, h1, h2, rfl, h3⟩
