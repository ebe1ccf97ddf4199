/-! the law's entry: what is seen of the heap -/
section EV
variable {s : State} {D : va_G} {c0 c1 : ClassId}
abbrev eS (q : Nat) (hs hz : Int32) : va_E := .inr (0, [.ref q, .int 0, .int hs, .int hz])
abbrev eA (c : ClassId) (n : Nat) (f : Nat → Int32) : va_E := .inl (c, n, .inl f)
def isS (D : va_G) (cell : Cell) (q : Nat) (hs hz : Int32) : Prop := (cell.cls = D.1 0 ∧ cell.vm.isStatics = false ∧ cell.vm ≠ .unknown) ∧ cell.slots[D.2 0 0]? = some (.ref q) ∧ cell.slots[D.2 0 1]? = some (.int 0) ∧ cell.slots[D.2 0 2]? = some (.int hs) ∧ cell.slots[D.2 0 3]? = some (.int hz)
def isA (s : State) (ty : FieldType) (cell : Cell) (n : Nat) (f : Nat → Int32) : Prop := s.isArrayOf cell ty ∧ cell.vm ≠ .unknown ∧ cell.slots.size = n ∧ ∀ j, j < n → cell.slots[j]? = some (.int (f j))
theorem isA_u {ty : FieldType} {cell : Cell} {n n' : Nat} {f f' : Nat → Int32} (h : isA s ty cell n f) (h' : isA s ty cell n' f') : n = n' ∧ ∀ j, j < n → f j = f' j := by
  have e : n = n' := h.2.2.1.symm.trans h'.2.2.1
  refine ⟨e, fun j hj => ?_⟩
  have := (h.2.2.2 j hj).symm.trans (h'.2.2.2 j (by omega))
  exact Value.int.inj (Option.some.inj this)
theorem isA_s {ty : FieldType} {cell : Cell} {n : Nat} {f : Nat → Int32} (h : isA s ty cell n f) (c : ClassId) : cell.slots = (vp_cell c (n, .inl f)).slots := by
  refine Array.ext_getElem? fun i => ?_
  show _ = (arrV c n (fun j => .int (f j))).slots[i]?
  by_cases hi : i < n
  · rw [arrV_read _ _ hi]
    exact h.2.2.2 i hi
  · rw [Array.getElem?_eq_none (by rw [h.2.2.1]; omega), Array.getElem?_eq_none (by rw [arrV_size]; omega)]
theorem isA_ty {t1 t2 : FieldType} {cell : Cell} (h1 : s.isArrayOf cell t1) (h2 : s.isArrayOf cell t2) : t1 = t2 := by
  obtain ⟨-, k, a1, p1, b1⟩ := h1
  obtain ⟨-, k', a2, p2, b2⟩ := h2
  cases a1.symm.trans a2
  rw [b1] at b2
  cases b2
  rfl
/-- what is seen at an address -/
def enR (s : State) (D : va_G) (c0 c1 : ClassId) (a : Nat) (o : Option va_E) : Prop :=
  (∀ e, o = some e → ∃ cell : Cell, s.heap[a]? = some cell ∧ ((∃ q hs hz, e = eS q hs hz ∧ q < s.heap.size ∧ isS D cell q hs hz) ∨ (∃ n f, e = eA c0 n f ∧ isA s .byte cell n f) ∨ ∃ n f, e = eA c1 n f ∧ isA s .int cell n f)) ∧
  ∀ cell : Cell, s.heap[a]? = some cell → (∀ q hs hz, q < s.heap.size → isS D cell q hs hz → o = some (eS q hs hz)) ∧ (∀ n f, isA s .byte cell n f → ∃ f', o = some (eA c0 n f') ∧ ∀ j, j < n → f' j = f j) ∧ ∀ n f, isA s .int cell n f → ∃ f', o = some (eA c1 n f') ∧ ∀ j, j < n → f' j = f j
theorem en_seen (hk : ∃ kC : Class, s.vm.classes[D.1 0]? = some kC ∧ kC.kind = .ordinary) (a : Nat) : ∃ o, enR s D c0 c1 a o := by
  cases hc : s.heap[a]? with
  | none => exact ⟨none, fun e z => (nomatch z), fun cell z => by rw [hc] at z; cases z⟩
  | some cell =>
    have sa : ∀ ty q hs hz, isS D cell q hs hz → s.isArrayOf cell ty → False := fun ty q hs hz h1 h2 => by
      obtain ⟨kC, g1, g2⟩ := hk
      obtain ⟨-, k, a1, p1, b1⟩ := h2
      rw [h1.1.1, g1] at a1
      cases a1
      rw [g2] at b1
      cases b1
    have same : ∀ {cell' : Cell}, s.heap[a]? = some cell' → cell' = cell := fun z => (Option.some.inj (hc.symm.trans z)).symm
    by_cases hS : ∃ q hs hz, q < s.heap.size ∧ isS D cell q hs hz
    · obtain ⟨q, hs, hz, h1, h2⟩ := hS
      refine ⟨some (eS q hs hz), fun e z => ⟨cell, hc, Or.inl ⟨q, hs, hz, (Option.some.inj z).symm, h1, h2⟩⟩, fun cell' z => ?_⟩
      obtain rfl := same z
      refine ⟨fun q' hs' hz' _ h3 => ?_, fun n f h3 => absurd h3.1 (fun y => sa _ _ _ _ h2 y), fun n f h3 => absurd h3.1 (fun y => sa _ _ _ _ h2 y)⟩
      have e1 := Value.ref.inj (Option.some.inj (h2.2.1.symm.trans h3.2.1))
      have e2 := Value.int.inj (Option.some.inj (h2.2.2.2.1.symm.trans h3.2.2.2.1))
      have e3 := Value.int.inj (Option.some.inj (h2.2.2.2.2.symm.trans h3.2.2.2.2))
      rw [e1, e2, e3]
    · by_cases hB : ∃ n f, isA s .byte cell n f
      · obtain ⟨n, f, h2⟩ := hB
        refine ⟨some (eA c0 n f), fun e z => ⟨cell, hc, Or.inr (Or.inl ⟨n, f, (Option.some.inj z).symm, h2⟩)⟩, fun cell' z => ?_⟩
        obtain rfl := same z
        refine ⟨fun q' hs' hz' y h3 => absurd ⟨q', hs', hz', y, h3⟩ hS, fun n' f' h3 => ?_, fun n' f' h3 => nomatch isA_ty h2.1 h3.1⟩
        obtain ⟨e1, e2⟩ := isA_u h2 h3
        subst e1
        exact ⟨f, rfl, e2⟩
      · by_cases hI : ∃ n f, isA s .int cell n f
        · obtain ⟨n, f, h2⟩ := hI
          refine ⟨some (eA c1 n f), fun e z => ⟨cell, hc, Or.inr (Or.inr ⟨n, f, (Option.some.inj z).symm, h2⟩)⟩, fun cell' z => ?_⟩
          obtain rfl := same z
          refine ⟨fun q' hs' hz' y h3 => absurd ⟨q', hs', hz', y, h3⟩ hS, fun n' f' h3 => absurd ⟨n', f', h3⟩ hB, fun n' f' h3 => ?_⟩
          obtain ⟨e1, e2⟩ := isA_u h2 h3
          subst e1
          exact ⟨f, rfl, e2⟩
        · refine ⟨none, fun e z => (nomatch z), fun cell' z => ?_⟩
          obtain rfl := same z
          exact ⟨fun q' hs' hz' y h3 => absurd ⟨q', hs', hz', y, h3⟩ hS, fun n' f' h3 => absurd ⟨n', f', h3⟩ hB, fun n' f' h3 => absurd ⟨n', f', h3⟩ hI⟩
theorem en_view (hk : ∃ kC : Class, s.vm.classes[D.1 0]? = some kC ∧ kC.kind = .ordinary) : ∃ v : Nat → Option va_E, ∀ a, enR s D c0 c1 a (v a) := by
  obtain ⟨F, hF⟩ := Classical.axiomOfChoice (r := fun (a : Nat) (o : Option va_E) => enR s D c0 c1 a o) (fun a => en_seen hk a)
  exact ⟨F, hF⟩
/-- the small heap at the entry -/
theorem en_rep {ts : List (ClassId × FieldType)} {v : Nat → Option va_E} (hv : ∀ a, enR s D c0 c1 a (v a)) (hA : ∀ q ∈ ts, ArrOfT s q.1 q.2) (h0 : ArrOfT s c0 .byte) (h1 : ArrOfT s c1 .int) : mv_rep (en_G s D ts) (s.heap.size, 0, v) s.heap := by
  have key : ∀ (c : ClassId) (ty : FieldType) (cell : Cell), ArrOfT s c ty → s.isArrayOf cell ty → ∀ U : State, en_X s U → ∀ t, (c, t) ∈ ts → U.isArrayOf cell t := fun c ty cell h2 h3 U hU t ht => by
    have e : ty = t := isA_ty (h2 0 (fun _ => .null)) (hA _ ht 0 (fun _ => .null))
    subst e
    exact State.isArrayOf_alike hU.1 h3
  have nst : ∀ {cell : Cell} {ty : FieldType}, s.isArrayOf cell ty → cell.vm.isStatics = false := fun {cell ty} h => by
    have := h.1
    cases hv : cell.vm <;> first | rfl | exact absurd hv (this _)
  refine ⟨rfl, Nat.le_refl _, fun a _ => rfl, fun a e he => ?_⟩
  obtain ⟨cell, hc, H⟩ := (hv a).1 e he
  have hlt : a < s.heap.size := (Array.getElem?_eq_some_iff.mp hc).1
  refine ⟨?_, fun z => absurd hlt (Nat.not_lt.mpr z)⟩
  rcases H with ⟨q, hs, hz, rfl, -, hS⟩ | ⟨n, f, rfl, hB⟩ | ⟨n, f, rfl, hB⟩
  · refine ⟨cell, hc, hS.1.2.1, hS.1.2.2, (RJ0, TJ0, 4), rfl, hS.1.1, fun k hk => ?_⟩
    match k, hk with
    | 0, _ => exact hS.2.1
    | 1, _ => exact hS.2.2.1
    | 2, _ => exact hS.2.2.2.1
    | 3, _ => exact hS.2.2.2.2
  · exact ⟨cell, hc, nst hB.1, hB.2.1, Or.inr (key _ _ _ h0 hB.1), isA_s hB _⟩
  · exact ⟨cell, hc, nst hB.1, hB.2.1, Or.inr (key _ _ _ h1 hB.1), isA_s hB _⟩
theorem en_wf {v : Nat → Option va_E} (hv : ∀ a, enR s D c0 c1 a (v a)) : mv_wf (s.heap.size, 0, v) := fun a ha => by
  cases e : v a with
  | none => exact e
  | some x =>
    obtain ⟨cell, hc, -⟩ := (hv a).1 x e
    have hlt : a < s.heap.size := (Array.getElem?_eq_some_iff.mp hc).1
    have ha' : s.heap.size ≤ a := ha
    omega
theorem en_hs {v : Nat → Option va_E} (hv : ∀ a, enR s D c0 c1 a (v a)) : ∀ (a q : Nat) (y : List Value), v a = some (.inr (0, .ref q :: y)) → q < s.heap.size := fun a q y e => by
  obtain ⟨cell, hc, H⟩ := (hv a).1 _ e
  rcases H with ⟨q', hs, hz, z, h1, -⟩ | ⟨n, f, z, -⟩ | ⟨n, f, z, -⟩
  · cases z
    exact h1
  · cases z
  · cases z
end EV
