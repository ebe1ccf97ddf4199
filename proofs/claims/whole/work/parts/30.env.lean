/-! what the run finds fixed: array classes by their places, statics that nobody writes -/
def mv_t (G : mv_G) (t : Nat) : ClassId := ((G.2.1[t]?).map (fun q => q.1)).getD 0
def mv_tys : List FieldType := [.byte, .int, .boolean, .long, .object "TreePaths$Value", .object "TreePaths$Row", .array .int]
def mv_ok (G : mv_G) : Prop := G.2.1.map (fun q => q.2) = mv_tys ∧
  (∀ U : State, G.2.2.2.2 U → va_Z "java/lang/String" "COMPACT_STRINGS" "Z" (.int 1) (fun a => G.2.2.1 ≤ a) U G.2.2.2.1) ∧
  (∃ v : Value, (v = .null ∨ ∃ a, v = .ref a) ∧ ∀ U : State, G.2.2.2.2 U → va_Z "jdk/internal/util/Preconditions" "SIOOBE_FORMATTER" "Ljava/util/function/BiFunction;" v (fun a => G.2.2.1 ≤ a) U G.2.2.2.1)
theorem mv_ty {G : mv_G} (hG : mv_ok G) {t : Nat} {ty : FieldType} (h : mv_tys[t]? = some ty) : G.2.1[t]? = some (mv_t G t, ty) := by
  have h1 : (G.2.1.map (fun q => q.2))[t]? = some ty := by rw [hG.1]; exact h
  rw [List.getElem?_map] at h1
  unfold mv_t
  cases hx : G.2.1[t]? with
  | none => rw [hx] at h1; cases h1
  | some q =>
    rw [hx] at h1
    have : q.2 = ty := Option.some.inj h1
    rw [← this]
    rfl
theorem mv_tB {G : mv_G} (hG : mv_ok G) : G.2.1[0]? = some (mv_t G 0, .byte) := mv_ty hG rfl
theorem mv_tI {G : mv_G} (hG : mv_ok G) : G.2.1[1]? = some (mv_t G 1, .int) := mv_ty hG rfl
theorem mv_tZ {G : mv_G} (hG : mv_ok G) : G.2.1[2]? = some (mv_t G 2, .boolean) := mv_ty hG rfl
theorem mv_tJ {G : mv_G} (hG : mv_ok G) : G.2.1[3]? = some (mv_t G 3, .long) := mv_ty hG rfl
/-- a text of Latin letters: a String's cell, its bytes -/
def mv_str (G : mv_G) (h : mv_H) (a : Nat) (t : List Nat) : Prop := ∃ (q : Nat) (hs hz : Int32) (f : Nat → Int32), h.2.2 a = some (.inr (0, [.ref q, .int 0, .int hs, .int hz])) ∧ h.2.2 q = some (.inl (mv_t G 0, t.length, .inl f)) ∧ (∀ j, j < t.length → f j = nI (t.getD j 0)) ∧ (∀ j, j < t.length → t.getD j 0 < 128) ∧ t.length < 65536
