/-! A machine over a small heap: mv_H is (first free address, slots laid, cells by address); mv_M a method; mv_G what stands fixed
(class numbers and slots; array classes; the first address of ours; the heap at the law's entry; facts of the tables). -/
abbrev mv_H : Type := Nat × Nat × (Nat → Option va_E)
abbrev mv_G : Type := va_G × List (ClassId × FieldType) × Nat × Heap × (State → Prop)
def mv_set (h : mv_H) (a : Nat) (e : va_E) : mv_H := (h.1, h.2.1, fun b => if b = a then some e else h.2.2 b)
def mv_new (h : mv_H) (n : Nat) (e : va_E) : mv_H := (h.1 + 1, h.2.1 + n, fun b => if b = h.1 then some e else h.2.2 b)
/-- what a cell that is only read must hold: its monitor, its hash and its VM data are as they are -/
def mv_lo (G : mv_G) (q : Nat × va_E) (H : Heap) : Prop := ∃ cell : Cell, H[q.1]? = some cell ∧ cell.vm.isStatics = false ∧ cell.vm ≠ .unknown ∧ match q.2 with
  | .inl a => (cell.cls = a.1 ∨ ∀ U : State, G.2.2.2.2 U → ∀ ty, (a.1, ty) ∈ G.2.1 → U.isArrayOf cell ty) ∧ cell.slots = (vp_cell a.1 a.2).slots
  | .inr o => ∃ r : vw_C, vwCl[o.1]? = some r ∧ cell.cls = G.1.1 o.1 ∧ ∀ k, k < r.2.2 → cell.slots[G.1.2 o.1 k]? = some (vp_V o.2 k)
/-- cells of ours are known wholly -/
def mv_is (G : mv_G) (q : Nat × va_E) (H : Heap) : Prop := mv_lo G q H ∧ (G.2.2.1 ≤ q.1 → va_at G.1 vwCl q H)
theorem vp_cell_vm (cA : ClassId) (x : vp_A) : (vp_cell cA x).vm = .none := by
  obtain ⟨n, f | f | f | f | f⟩ := x <;> rfl
theorem vp_cell_cls (cA : ClassId) (x : vp_A) : (vp_cell cA x).cls = cA := by
  obtain ⟨n, f | f | f | f | f⟩ := x <;> rfl
theorem mv_is.of {G : mv_G} {q : Nat × va_E} {H : Heap} (h : va_at G.1 vwCl q H) : mv_is G q H := by
  refine ⟨?_, fun _ => h⟩
  obtain ⟨a, e⟩ := q
  cases e with
  | inl x => exact ⟨_, h, by rw [vp_cell_vm]; rfl, by rw [vp_cell_vm]; exact nofun, Or.inl (vp_cell_cls _ _), rfl⟩
  | inr o =>
    obtain ⟨r, h1, cell, q1, q2, q3, q4⟩ := h
    exact ⟨cell, q1, by rw [q3]; rfl, by rw [q3]; exact nofun, r, h1, q2, q4⟩
theorem mv_is.kept {G : mv_G} {q : Nat × va_E} {H H1 : Heap} (h : mv_is G q H) (hq : H1[q.1]? = H[q.1]?) : mv_is G q H1 := by
  obtain ⟨⟨cell, h1, h2⟩, h3⟩ := h
  exact ⟨⟨cell, hq.trans h1, h2⟩, fun z => (h3 z).kept hq⟩
theorem mv_is.lt {G : mv_G} {q : Nat × va_E} {H : Heap} (h : mv_is G q H) : q.1 < H.size := by
  obtain ⟨⟨cell, h1, -⟩, -⟩ := h
  exact (Array.getElem?_eq_some_iff.mp h1).1
/-- the real heap holds the small one; what lay below our first address is as it was -/
def mv_rep (G : mv_G) (h : mv_H) (H : Heap) : Prop :=
  H.size = h.1 ∧ G.2.2.1 ≤ h.1 ∧ (∀ a : Nat, a < G.2.2.1 → H[a]? = G.2.2.2.1[a]?) ∧ ∀ (a : Nat) (e : va_E), h.2.2 a = some e → mv_is G (a, e) H
def mv_loc (L : List (Option Value)) (ls : Array Slot) : Prop :=
  ls.size = L.length ∧ lv_wf ls ∧ ∀ (i : Nat) (v : Value), L[i]? = some (some v) → ls[i]? = some (.val v)
/-- a word that goes with the run from a state to a warmer one -/
def mv_mov (w : Cond) : Prop := ∀ (s U : State) (a a' : Array Value), s.WarmedH U.vm → w.before a s = true → w.before a' U = true
theorem mv_mov_good {w : Cond} (h : goodWord w = true) : mv_mov w := fun _ _ _ _ hW hb => word_at hW (good_of_word h) hb
theorem mv_mov_nest {a : String} {i : Nat} {x : MethodName} {h : String} : mv_mov (.methodLinkNest a i x h) := fun _ _ _ _ hW hb =>
  va_Nw.use rfl (va_Nw.warmM hW (va_Nw.of rfl hb))
/-- what holds of the run inside the method M, with d frames left -/
def mv_ctx (G : mv_G) (M : mv_M) (d : Nat) (p : Program) (R : Room) (s : State) (m : MethodId) (args : Array Value) (meth : Method) (c : Code) : Prop :=
  p.tables.exec = Jvm.exec ∧ c.code = M.2.1 ∧ c.maxLocals = M.2.2.1 ∧ s.vm.findClass M.1.cls = some m.cls ∧ meth.sig.returnType = M.2.2.2.1 ∧ meth.locks = false ∧ meth.name = M.1.name ∧
  c.exceptionTable.toList.map (fun h => (h.startPc, h.endPc, h.handlerPc, h.catchType)) = M.2.2.2.2 ∧ (∀ w ∈ lw_tbl, mv_mov w → w.before args s = true) ∧ va_K G.1 vwCl G.2.1 s ∧
  (G.2.2.2.2 s ∧ ∀ u U : State, u.WarmedH U.vm → G.2.2.2.2 u → G.2.2.2.2 U) ∧ d ≤ R.frames ∧ 64 * d ≤ R.locals
/-- an end: what came back, or the class of what was thrown -/
abbrev mv_O : Type := Option Value ⊕ (String × Nat)
def mv_oc (s t : State) (o : mv_O) (oc : Outcome) : Prop := match o with
  | .inl v => oc = .returned v
  | .inr E => ∃ ce : Cell, oc = .threw E.2 ∧ t.heap[E.2]? = some ce ∧ ce.vm = .none ∧ s.vm.findClass E.1 = some ce.cls
def mv_end (G : mv_G) (s : State) (below : List Frame) (o : mv_O) (h' : mv_H) (k n : Nat) : State → Prop := fun t =>
  ∃ oc, t.status = .running ∧ Ended t below oc ∧ mv_oc s t o oc ∧ mv_rep G h' t.heap ∧ s.WarmedH t.vm ∧ ∃ Ls, s.sameButNew ({ t with vm := s.vm } : State) Ls k n ∧ ∀ q ∈ Ls, G.2.2.1 ≤ q.base
/-- the run of M from pc, locals L, stack st, heap h comes to the end o with the heap h' -/
def mv_rw (l : Launch) (G : mv_G) (M : mv_M) (d pc : Nat) (L : List (Option Value)) (st : List Value) (h : mv_H) (o : mv_O) (h' : mv_H) : Prop :=
  h.1 ≤ h'.1 ∧ h.2.1 ≤ h'.2.1 ∧ ∀ (p : Program) (e : Env) (R : Room) (s : State) (m : MethodId) (args : Array Value) (below : List Frame) (meth : Method) (c : Code), mv_ctx G M d p R s m args meth c →
    ∀ (H : Heap) (locs : List Loc) (cells slots : Nat) (ls : Array Slot) (u0 : Nat), mv_rep G h H → mv_loc L ls → (∀ q ∈ locs, G.2.2.1 ≤ q.base) → s.heap.size + cells = h.1 → u0 + slots = h.2.1 →
      h'.1 ≤ s.heap.size + R.cells → h'.2.1 ≤ u0 + R.slots →
      W p l e R s m args below meth c H locs cells slots (mv_end G s below o h' (h'.1 - s.heap.size) (h'.2.1 - u0)) (F0 m pc ls st)
/-- the run of M comes to an end, and Q holds of it -/
def mv_rq (l : Launch) (G : mv_G) (M : mv_M) (d pc : Nat) (L : List (Option Value)) (st : List Value) (h : mv_H) (Q : mv_O → mv_H → Prop) : Prop :=
  ∃ (o : mv_O) (h' : mv_H), mv_rw l G M d pc L st h o h' ∧ Q o h'
section MVA
variable {l : Launch} {G : mv_G} {M : mv_M} {d pc pc' : Nat} {L L' : List (Option Value)} {st st' : List Value} {h h1 : mv_H} {Q : mv_O → mv_H → Prop}
theorem mv_rq.mono {Q' : mv_O → mv_H → Prop} (k : mv_rq l G M d pc L st h Q) (hq : ∀ o h', Q o h' → Q' o h') : mv_rq l G M d pc L st h Q' := by
  obtain ⟨o, h', r, q⟩ := k
  exact ⟨o, h', r, hq o h' q⟩
/-- an instruction that makes and writes nothing -/
theorem mv_pure
    (hW : ∀ (p : Program) (e : Env) (R : Room) (s : State) (m : MethodId) (args : Array Value) (below : List Frame) (meth : Method) (c : Code) (H : Heap) (locs : List Loc) (cells slots : Nat) (ls : Array Slot) (Q0 : State → Prop),
      mv_ctx G M d p R s m args meth c → mv_rep G h H → mv_loc L ls → (∀ ls', mv_loc L' ls' → W p l e R s m args below meth c H locs cells slots Q0 (F0 m pc' ls' st')) → W p l e R s m args below meth c H locs cells slots Q0 (F0 m pc ls st))
    (k : mv_rq l G M d pc' L' st' h Q) : mv_rq l G M d pc L st h Q := by
  obtain ⟨o, h', ⟨r1, r2, r3⟩, q⟩ := k
  refine ⟨o, h', ⟨r1, r2, fun p e R s m args below meth c C H locs cells slots ls u0 a1 a2 a3 a4 a5 a6 a7 => ?_⟩, q⟩
  exact hW p e R s m args below meth c H locs cells slots ls _ C a1 a2 fun ls' hl' => r3 p e R s m args below meth c C H locs cells slots ls' u0 a1 hl' a3 a4 a5 a6 a7
/-- an instruction that writes one cell of ours -/
theorem mv_wr {a : Nat} {e1 : va_E} (ha : G.2.2.1 ≤ a)
    (hW : ∀ (p : Program) (e : Env) (R : Room) (s : State) (m : MethodId) (args : Array Value) (below : List Frame) (meth : Method) (c : Code) (H : Heap) (locs : List Loc) (cells slots : Nat) (ls : Array Slot) (Q0 : State → Prop),
      mv_ctx G M d p R s m args meth c → mv_rep G h H → mv_loc L ls →
      (∀ (H1 : Heap) (i : Nat), H1.size = H.size → (∀ q : Nat, q ≠ a → H1[q]? = H[q]?) → va_at G.1 vwCl (a, e1) H1 → W p l e R s m args below meth c H1 (locs ++ [⟨a, i⟩]) cells slots Q0 (F0 m pc' ls st')) → W p l e R s m args below meth c H locs cells slots Q0 (F0 m pc ls st))
    (k : mv_rq l G M d pc' L st' (mv_set h a e1) Q) : mv_rq l G M d pc L st h Q := by
  obtain ⟨o, h', ⟨r1, r2, r3⟩, q⟩ := k
  refine ⟨o, h', ⟨r1, r2, fun p e R s m args below meth c C H locs cells slots ls u0 a1 a2 a3 a4 a5 a6 a7 => ?_⟩, q⟩
  refine hW p e R s m args below meth c H locs cells slots ls _ C a1 a2 fun H1 i z1 z2 z3 => r3 p e R s m args below meth c C H1 _ cells slots ls u0 ?_ a2 ?_ a4 a5 a6 a7
  · obtain ⟨b1, b2, b3, b4⟩ := a1
    refine ⟨z1.trans b1, b2, fun x hx => ?_, fun x ex hx => ?_⟩
    · rw [z2 x (by omega)]
      exact b3 x hx
    · by_cases e0 : x = a
      · subst e0
        have : ex = e1 := by
          have h0 : (if x = x then some e1 else h.2.2 x) = some ex := hx
          rw [if_pos rfl] at h0
          exact (Option.some.inj h0).symm
        subst this
        exact mv_is.of z3
      · have h0 : (if x = a then some e1 else h.2.2 x) = some ex := hx
        rw [if_neg e0] at h0
        exact (b4 x ex h0).kept (z2 x e0)
  · intro y hy
    rcases List.mem_append.mp hy with h2 | h2
    · exact a3 y h2
    · rw [List.mem_singleton.mp h2]
      exact ha
/-- an instruction that makes one cell -/
theorem mv_mk {n : Nat} {e1 : va_E}
    (hW : ∀ (p : Program) (e : Env) (R : Room) (s : State) (m : MethodId) (args : Array Value) (below : List Frame) (meth : Method) (c : Code) (H : Heap) (locs : List Loc) (cells slots : Nat) (ls : Array Slot) (Q0 : State → Prop),
      mv_ctx G M d p R s m args meth c → mv_rep G h H → mv_loc L ls → cells + 1 ≤ R.cells → slots + n ≤ R.slots →
      (∀ H1 : Heap, H1.size = H.size + 1 → (∀ q : Nat, q ≠ H.size → H1[q]? = H[q]?) → va_at G.1 vwCl (H.size, e1) H1 → W p l e R s m args below meth c H1 locs (cells + 1) (slots + n) Q0 (F0 m pc' ls st')) → W p l e R s m args below meth c H locs cells slots Q0 (F0 m pc ls st))
    (k : mv_rq l G M d pc' L st' (mv_new h n e1) Q) : mv_rq l G M d pc L st h Q := by
  obtain ⟨o, h', ⟨r1, r2, r3⟩, q⟩ := k
  have r1' : h.1 + 1 ≤ h'.1 := r1
  have r2' : h.2.1 + n ≤ h'.2.1 := r2
  refine ⟨o, h', ⟨by omega, by omega, fun p e R s m args below meth c C H locs cells slots ls u0 a1 a2 a3 a4 a5 a6 a7 => ?_⟩, q⟩
  refine hW p e R s m args below meth c H locs cells slots ls _ C a1 a2 (by omega) (by omega) fun H1 z1 z2 z3 => r3 p e R s m args below meth c C H1 _ (cells + 1) (slots + n) ls u0 ?_ a2 a3 ?_ ?_ a6 a7
  · obtain ⟨b1, b2, b3, b4⟩ := a1
    refine ⟨by rw [z1, b1]; rfl, Nat.le_succ_of_le b2, fun x hx => ?_, fun x ex hx => ?_⟩
    · rw [z2 x (by omega)]
      exact b3 x hx
    · by_cases e0 : x = h.1
      · subst e0
        have h0 : (if h.1 = h.1 then some e1 else h.2.2 h.1) = some ex := hx
        rw [if_pos rfl] at h0
        rw [← Option.some.inj h0, ← b1]
        exact mv_is.of z3
      · have h0 : (if x = h.1 then some e1 else h.2.2 x) = some ex := hx
        rw [if_neg e0] at h0
        exact (b4 x ex h0).kept (z2 x (by rw [b1]; exact e0))
  · show s.heap.size + (cells + 1) = h.1 + 1
    omega
  · show u0 + (slots + n) = h.2.1 + n
    omega
end MVA
