/-! ENDS AND CALLS: a callee is entered (Stand.into) and left (outOf, outOfThrown) with its own run, no contract of the kit between. -/
def mv_ent : List Value → List (Option Value)
  | [] => []
  | v :: r => if v.category = 2 then some v :: none :: mv_ent r else some v :: mv_ent r
def mv_in (vs : List Value) (n : Nat) : List (Option Value) := mv_ent vs ++ List.replicate (n - (mv_ent vs).length) none
theorem mv_ent_args : ∀ (vs : List Value) (k j : Nat) (v : Value), (mv_ent vs)[j]? = some (some v) → (k + j, v) ∈ lv_args k vs
  | [], _, _, _, h => by simp [mv_ent] at h
  | w :: r, k, j, v, h => by
    unfold mv_ent at h
    unfold lv_args
    split at h
    next hc =>
      rw [if_pos hc]
      match j, h with
      | 0, h =>
        have : w = v := by simpa using h
        subst this
        exact List.mem_cons_self
      | 1, h => simp at h
      | j + 2, h =>
        have h' : (mv_ent r)[j]? = some (some v) := by simpa using h
        have := mv_ent_args r (k + 2) j v h'
        rw [show k + 2 + j = k + (j + 2) by omega] at this
        exact List.mem_cons_of_mem _ this
    next hc =>
      rw [if_neg hc]
      match j, h with
      | 0, h =>
        have : w = v := by simpa using h
        subst this
        exact List.mem_cons_self
      | j + 1, h =>
        have h' : (mv_ent r)[j]? = some (some v) := by simpa using h
        have := mv_ent_args r (k + 1) j v h'
        rw [show k + 1 + j = k + (j + 1) by omega] at this
        exact List.mem_cons_of_mem _ this
theorem mv_ent_len : ∀ vs : List Value, (mv_ent vs).length = (lg_sl vs).length
  | [] => rfl
  | v :: r => by
    have ih := mv_ent_len r
    unfold mv_ent
    show _ = (lg_sl (v :: r)).length
    have e : lg_sl (v :: r) = (if v.category = 2 then [Slot.val v, Slot.second] else [Slot.val v]) ++ lg_sl r := by simp [lg_sl]
    rw [e]
    split <;> simp [ih] <;> omega
theorem mv_in_loc (vs : List Value) (n : Nat) (hn : (mv_ent vs).length ≤ n) : mv_loc (mv_in vs n) ((lg_sl vs ++ List.replicate (n - (lg_sl vs).length) Slot.unset).toArray) := by
  have hn' : (lg_sl vs).length ≤ n := by rw [← mv_ent_len]; exact hn
  obtain ⟨h1, h2, h3⟩ := lv_entry vs (n := n) hn'
  refine ⟨by rw [h1]; simp [mv_in]; omega, h2, fun i v hi => ?_⟩
  unfold mv_in at hi
  by_cases hl : i < (mv_ent vs).length
  · rw [List.getElem?_append_left hl] at hi
    have := mv_ent_args vs 0 i v hi
    rw [Nat.zero_add] at this
    exact h3 (i, v) this
  · rw [List.getElem?_append_right (by omega)] at hi
    have := List.mem_of_getElem? hi
    have := (List.mem_replicate.mp this).2
    cases this
section MVD
variable {l : Launch} {G : mv_G} {M : mv_M} {d pc : Nat} {L : List (Option Value)} {st : List Value} {h : mv_H} {Q : mv_O → mv_H → Prop}
/-- a return of no value -/
theorem q_vret (hd : decode M.2.1 pc = .ok (.return_, 1)) (hr : M.2.2.2.1 = none) (hq : Q (.inl none) h) : mv_rq l G M d pc L [] h Q := by
  refine ⟨.inl none, h, ⟨Nat.le_refl _, Nat.le_refl _, fun p e R s m args below meth c C H locs cells slots ls u0 a1 a2 a3 a4 a5 a6 a7 => ?_⟩, hq⟩
  have hw := W.vret (p := p) (l := l) (e := e) (R := R) (s := s) (m := m) (args := args) (below := below) (meth := meth) (c := c) (H := H) (locs := locs) (cells := cells) (slots := slots) (ls := ls) (pc := pc) (Qc := fun _ st o t => o = .returned none ∧ t.heap = H) (free := fun a => G.2.2.1 ≤ a) C.1 C.2.1 (C.2.2.2.2.1.trans hr) (fun t ht _ => ⟨rfl, ht⟩) a3 hd C.2.2.2.2.2.1
  intro T hT X
  obtain ⟨t, b1, o, b2, b3, ⟨rfl, b5⟩, Ls, ⟨-, b7, b8⟩, b9⟩ := hw T hT X
  refine ⟨t, b1, .returned none, b2, b3, rfl, by rw [b5]; exact a1, b7, Ls, ?_, b9⟩
  rw [show h.1 - s.heap.size = cells by omega, show h.2.1 - u0 = slots by omega]
  exact b8
/-- a return of an int, or of what is one on the stack -/
theorem q_iret {v : Int32} {ty : FieldType} (hd : decode M.2.1 pc = .ok (.ireturn, 1)) (hr : M.2.2.2.1 = some ty) (hn : narrow ty (.int v) = .int v) (hq : Q (.inl (some (.int v))) h) : mv_rq l G M d pc L [.int v] h Q := by
  refine ⟨.inl (some (.int v)), h, ⟨Nat.le_refl _, Nat.le_refl _, fun p e R s m args below meth c C H locs cells slots ls u0 a1 a2 a3 a4 a5 a6 a7 => ?_⟩, hq⟩
  have hw := W.zret (p := p) (l := l) (e := e) (R := R) (s := s) (m := m) (args := args) (below := below) (meth := meth) (c := c) (H := H) (locs := locs) (cells := cells) (slots := slots) (ls := ls) (pc := pc) (v := v) (ty := ty) (Qc := fun _ st o t => o = .returned (some (.int v)) ∧ t.heap = H) (free := fun a => G.2.2.1 ≤ a) C.1 C.2.1 (C.2.2.2.2.1.trans hr) hn (fun t ht _ => ⟨rfl, ht⟩) a3 hd C.2.2.2.2.2.1
  intro T hT X
  obtain ⟨t, b1, o, b2, b3, ⟨rfl, b5⟩, Ls, ⟨-, b7, b8⟩, b9⟩ := hw T hT X
  refine ⟨t, b1, .returned (some (.int v)), b2, b3, rfl, by rw [b5]; exact a1, b7, Ls, ?_, b9⟩
  rw [show h.1 - s.heap.size = cells by omega, show h.2.1 - u0 = slots by omega]
  exact b8
/-- a return of a reference or null -/
theorem q_aret {v : Value} {rt : FieldType} (hd : decode M.2.1 pc = .ok (.areturn, 1)) (hr : M.2.2.2.1 = some rt) (hrt : (∃ n, rt = .object n) ∨ ∃ t, rt = .array t) (hv : v = .null ∨ ∃ a, v = .ref a) (hq : Q (.inl (some v)) h) : mv_rq l G M d pc L [v] h Q := by
  refine ⟨.inl (some v), h, ⟨Nat.le_refl _, Nat.le_refl _, fun p e R s m args below meth c C H locs cells slots ls u0 a1 a2 a3 a4 a5 a6 a7 => ?_⟩, hq⟩
  have hw := W.aret (p := p) (l := l) (e := e) (R := R) (s := s) (m := m) (args := args) (below := below) (meth := meth) (c := c) (H := H) (locs := locs) (cells := cells) (slots := slots) (ls := ls) (pc := pc) (v := v) (rt := rt) (Qc := fun _ st o t => o = .returned (some v) ∧ t.heap = H) (free := fun a => G.2.2.1 ≤ a) C.1 C.2.1 (C.2.2.2.2.1.trans hr) hrt hv (fun t ht _ => ⟨rfl, ht⟩) a3 hd C.2.2.2.2.2.1
  intro T hT X
  obtain ⟨t, b1, o, b2, b3, ⟨rfl, b5⟩, Ls, ⟨-, b7, b8⟩, b9⟩ := hw T hT X
  refine ⟨t, b1, .returned (some v), b2, b3, rfl, by rw [b5]; exact a1, b7, Ls, ?_, b9⟩
  rw [show h.1 - s.heap.size = cells by omega, show h.2.1 - u0 = slots by omega]
  exact b8
theorem mv_cw_spec {Y : mv_M} {args : Array Value} {s : State} {mk : MethodId} (hn : s.methodNamed? Y.1 = some mk) (hw : (mv_cw Y).before args s = true) :
    ∃ meth c, s.vm.method? mk = some meth ∧ meth.code = some c ∧ c.code = Y.2.1 ∧ c.maxLocals = Y.2.2.1 ∧ meth.sig.returnType = Y.2.2.2.1 ∧ meth.locks = false ∧ c.exceptionTable.toList.map (fun h => (h.startPc, h.endPc, h.handlerPc, h.catchType)) = Y.2.2.2.2 ∧ parseMethodDescriptor Y.1.desc = some meth.sig := by
  unfold mv_cw at hw
  split at hw
  next e =>
    obtain ⟨meth, c, h1, h2, h3, h4, h5, h6, h7, h8⟩ := Cond.code_spec hn hw
    refine ⟨meth, c, h1, h2, h3, h4, h5, h6, ?_, h8⟩
    rw [e]
    have : c.exceptionTable = #[] := Array.isEmpty_iff.mp h7
    rw [this]
    rfl
  next e =>
    obtain ⟨m9, meth, c, hn9, h1, h2, h3, h4, h5, h6, h7, h8⟩ := Cond.codeWith_spec hw
    cases hn.symm.trans hn9
    exact ⟨meth, c, h1, h2, h3, h4, h6, h7, h5, h8⟩
/-- into the callee and out again: T is where the call has been resolved (its arguments off the stack: g) -/
theorem mv_enter {Y : mv_M} {vs : List Value} {h1 : mv_H} {o : mv_O} (hrw : mv_rw l G Y d 0 (mv_in vs Y.2.2.1) [] h o h1) (hnl : (mv_ent vs).length ≤ Y.2.2.1) (hY : plainName Y.1.cls = true)
    {p : Program} {e : Env} {R : Room} {s : State} {m : MethodId} {args : Array Value} {below : List Frame} {meth : Method} {c : Code} (C : mv_ctx G M (d + 1) p R s m args meth c)
    {T : State} {locs : List Loc} {cells slots u0 : Nat} (X : Stand p l e R s m args below meth c T locs cells slots) (hR : mv_rep G h T.heap) (hlo : ∀ q ∈ locs, G.2.2.1 ≤ q.base)
    (hc1 : s.heap.size + cells = h.1) (hs1 : u0 + slots = h.2.1) (hc2 : h1.1 ≤ s.heap.size + R.cells) (hs2 : h1.2.1 ≤ u0 + R.slots)
    {g : JFrame} (hg : g.method = m) (hsize : g.locals.size = c.maxLocals) {ig : Instr} {len : Nat} (hdg : decode c.code g.pc = .ok (ig, len)) {mk : MethodId} (hn : T.methodNamed? Y.1 = some mk)
    (hcw : (mv_cw Y).before args T = true) (hmL : 2 * g.monitorRoom + (g.stack.map fun v => v.category).sum + (Y.2.2.1 + 11) ≤ 64) :
    ∃ (T' : State) (Lo : List Loc) (k n : Nat), Stand p l e R s m args below meth c T' (locs ++ Lo) (cells + k) (slots + n) ∧ mv_rep G h1 T'.heap ∧ (∀ q ∈ locs ++ Lo, G.2.2.1 ≤ q.base) ∧ s.heap.size + (cells + k) = h1.1 ∧ u0 + (slots + n) = h1.2.1 ∧
      ((∃ v, o = .inl v ∧ ∀ acts, Steps p.tables e below (doInvoke e (T.setTop g) acts mk vs.toArray).1 (T'.setTop { g with pc := g.pc + len, stack := v.toList ++ g.stack })) ∨
       (∃ (E : String × Nat) (ce : Cell), o = .inr E ∧ T'.heap[E.2]? = some ce ∧ ce.vm = .none ∧ s.vm.findClass E.1 = some ce.cls ∧ ∀ acts, Steps p.tables e below (doInvoke e (T.setTop g) acts mk vs.toArray).1 ((T'.setTop g).pushFrame (.throwing E.2)))) := by
  obtain ⟨r1, r2, r3⟩ := hrw
  obtain ⟨methk, ck, k1, k2, k3, k4, k5, k6, k7, k8⟩ := mv_cw_spec hn hcw
  obtain ⟨c1, c2, c3, c4, c5, c6, c7, c8, c9, c10, ⟨c11, c11'⟩, c12, c13⟩ := C
  have hpk : T.plainMethod mk := State.plainMethod.of_named (s := T) (plainFor_of_name hY) hn k1
  obtain ⟨Y₀, hin⟩ := X.into hg hsize hdg vs.toArray (R' := { frames := d, cells := h1.1 - h.1, slots := h1.2.1 - h.2.1, locals := 64 * d }) k1 k2 k6 hpk (by show d + 1 ≤ R.frames; omega)
    (by show _ + (ck.maxLocals + 11) + 64 * d ≤ R.locals; rw [k4]; omega) (by show cells + (h1.1 - h.1) ≤ R.cells; omega) (by show slots + (h1.2.1 - h.2.1) ≤ R.slots; omega)
  have hW0 : s.WarmedH T.vm := X.warmed
  have hWc : s.WarmedH (T.calling g mk vs.toArray).vm := hW0
  have hal : s.vm.Alike (T.calling g mk vs.toArray).vm := hWc.alike
  have hnY : (T.calling g mk vs.toArray).methodNamed? Y.1 = some mk := hn
  have Ck : mv_ctx G Y d p { frames := d, cells := h1.1 - h.1, slots := h1.2.1 - h.2.1, locals := 64 * d } (T.calling g mk vs.toArray) mk vs.toArray methk ck :=
    ⟨c1, k3, k4, findClass_of_methodNamed hnY, k5, k6, (name_of_methodNamed hnY k1).1, k7, fun w hw hmv => hmv _ _ _ _ hWc (c9 w hw hmv), c10.moved hal, ⟨c11' _ _ hWc c11, c11'⟩, Nat.le_refl _, Nat.le_refl _⟩
  have hheap : ((T.setTop g).pushFrame (.java (entryFrame mk vs.toArray ck.maxLocals))).heap = T.heap := rfl
  have hcal : (T.calling g mk vs.toArray).heap = T.heap := rfl
  have hbase := hR.1
  have hW1 := r3 p e _ (T.calling g mk vs.toArray) mk vs.toArray (.java g :: below) methk ck Ck T.heap [] 0 0 ((lg_sl vs ++ List.replicate (Y.2.2.1 - (lg_sl vs).length) Slot.unset).toArray) h.2.1 hR (mv_in_loc vs _ hnl) (fun q hq => by cases hq)
    (by rw [hcal]; exact hbase) rfl (by rw [hcal]; show h1.1 ≤ T.heap.size + (h1.1 - h.1); omega) (by show h1.2.1 ≤ h.2.1 + (h1.2.1 - h.2.1); omega)
  obtain ⟨t, s1, oc, s2, s3, s4, s5, s6, Lo, s7, s8⟩ := hW1 _ hheap Y₀
  rw [hcal, hbase] at s7
  have hb : ∀ q ∈ locs ++ Lo, G.2.2.1 ≤ q.base := fun q hq => (List.mem_append.mp hq).elim (hlo q) (s8 q)
  have hent : entryFrame mk vs.toArray ck.maxLocals = F0 mk 0 ((lg_sl vs ++ List.replicate (Y.2.2.1 - (lg_sl vs).length) Slot.unset).toArray) [] := by rw [k4]; exact lg_entry_eq mk vs _
  rw [← hent] at s1
  cases o with
  | inl v =>
    have s4' : oc = .returned v := s4
    subst s4'
    obtain ⟨T', X', w1, w2, w3⟩ := X.outOf hg hdg s3 s6 s7
    have hh : T'.heap = t.heap := by rw [w3]; simp
    refine ⟨T', Lo, _, _, X', by rw [hh]; exact s5, hb, by omega, by omega, Or.inl ⟨v, rfl, fun acts => ?_⟩⟩
    rw [hin acts, ← w3]
    exact Steps.weaken (mid := [.java g]) s1
  | inr E =>
    obtain ⟨ce, s4a, s4b, s4c, s4d⟩ := s4
    subst s4a
    obtain ⟨T', X', w1, w2, w3⟩ := X.outOfThrown hg s3 s6 s7
    have hh : T'.heap = t.heap := by rw [w3]; simp [State.pushFrame, State.setFrames]
    refine ⟨T', Lo, _, _, X', by rw [hh]; exact s5, hb, by omega, by omega, Or.inr ⟨E, ce, rfl, by rw [hh]; exact s4b, s4c, ?_, fun acts => ?_⟩⟩
    · have h9 := s4d
      rw [hal.findClass] at h9
      exact h9
    · rw [hin acts, ← w3]
      exact Steps.weaken (mid := [.java g]) s1
end MVD
/-- the run of M where an exception of class E has come up at pc -/
def mv_xw (l : Launch) (G : mv_G) (M : mv_M) (d pc : Nat) (L : List (Option Value)) (E : String × Nat) (h : mv_H) (o : mv_O) (h' : mv_H) : Prop :=
  h.1 ≤ h'.1 ∧ h.2.1 ≤ h'.2.1 ∧ ∀ (p : Program) (e : Env) (R : Room) (s : State) (m : MethodId) (args : Array Value) (below : List Frame) (meth : Method) (c : Code), mv_ctx G M d p R s m args meth c →
    ∀ (T : State) (locs : List Loc) (cells slots : Nat) (ls : Array Slot) (u0 : Nat) (st : List Value) (ce : Cell), Stand p l e R s m args below meth c T locs cells slots → mv_rep G h T.heap → mv_loc L ls → (∀ q ∈ locs, G.2.2.1 ≤ q.base) → s.heap.size + cells = h.1 → u0 + slots = h.2.1 →
      h'.1 ≤ s.heap.size + R.cells → h'.2.1 ≤ u0 + R.slots → T.heap[E.2]? = some ce → ce.vm = .none → s.vm.findClass E.1 = some ce.cls →
      ∃ t, Steps p.tables e below ((T.setTop (F0 m pc ls st)).pushFrame (.throwing E.2)) t ∧ mv_end G s below o h' (h'.1 - s.heap.size) (h'.2.1 - u0) t
def mv_xq (l : Launch) (G : mv_G) (M : mv_M) (d pc : Nat) (L : List (Option Value)) (E : String × Nat) (h : mv_H) (Q : mv_O → mv_H → Prop) : Prop :=
  ∃ (o : mv_O) (h' : mv_H), mv_xw l G M d pc L E h o h' ∧ Q o h'
section MVE
variable {l : Launch} {G : mv_G} {M : mv_M} {d pc : Nat} {L : List (Option Value)} {st : List Value} {h : mv_H} {Q : mv_O → mv_H → Prop}
/-- the rest of a call, behind its resolution -/
theorem mv_call {Y : mv_M} {vs st0 : List Value} {Qy : mv_O → mv_H → Prop} (hrq : mv_rq l G Y d 0 (mv_in vs Y.2.2.1) [] h Qy) (hnl : (mv_ent vs).length ≤ Y.2.2.1) (hY : plainName Y.1.cls = true)
    (hcw : mv_cw Y ∈ lw_tbl) (hgw : goodWord (mv_cw Y) = true) (hmL : (st.map fun v => v.category).sum + (Y.2.2.1 + 11) ≤ 64) (hLn : L.length = M.2.2.1) {ig : Instr} {len : Nat} (hd : decode M.2.1 pc = .ok (ig, len))
    (hres : ∀ (p : Program) (e : Env) (R : Room) (s : State) (m : MethodId) (args : Array Value) (below : List Frame) (meth : Method) (c : Code) (T : State) (locs : List Loc) (cells slots : Nat) (ls : Array Slot),
      mv_ctx G M (d + 1) p R s m args meth c → mv_rep G h T.heap → mv_loc L ls → Stand p l e R s m args below meth c T locs cells slots →
      ∃ (vm₁ : Vm) (mk : MethodId), Stand p l e R s m args below meth c (T.setVm vm₁) locs cells slots ∧ (T.setVm vm₁).methodNamed? Y.1 = some mk ∧
        ∀ target, (∀ acts, Steps p.tables e below (doInvoke e ((T.setVm vm₁).setTop (F0 m pc ls st)) acts mk vs.toArray).1 target) → Steps p.tables e below (T.setTop (F0 m pc ls st0)) target)
    (kv : ∀ v h1, Qy (.inl v) h1 → mv_rq l G M (d + 1) (pc + len) L (v.toList ++ st) h1 Q) (kx : ∀ E h1, Qy (.inr E) h1 → mv_xq l G M (d + 1) pc L E h1 Q) : mv_rq l G M (d + 1) pc L st0 h Q := by
  obtain ⟨o1, h1, rwY, qy⟩ := hrq
  have y1 := rwY.1
  have y2 := rwY.2.1
  cases o1 with
  | inl v =>
    obtain ⟨o, h', ⟨r1, r2, r3⟩, q⟩ := kv v h1 qy
    refine ⟨o, h', ⟨by omega, by omega, fun p e R s m args below meth c C H locs cells slots ls u0 a1 a2 a3 a4 a5 a6 a7 => ?_⟩, q⟩
    intro T hT X
    subst hT
    obtain ⟨vm₁, mk, X₁, hn, hst⟩ := hres p e R s m args below meth c T locs cells slots ls C a1 a2 X
    obtain ⟨T', Lo, k, n, X', b1, b2, b3, b4, b5⟩ := mv_enter (g := F0 m pc ls st) rwY hnl hY C X₁ a1 a3 a4 a5 (by omega) (by omega) rfl (a2.1.trans (hLn.trans C.2.2.1.symm)) (by rw [C.2.1]; exact hd) hn (mv_mov_good hgw _ _ _ _ X₁.warmed (mv_word C hcw hgw)) (by simpa using hmL)
    rcases b5 with ⟨v', ev, hs⟩ | ⟨E, ce, ee, -⟩
    · cases ev
      obtain ⟨t, t1, t2⟩ := r3 p e R s m args below meth c C T'.heap (locs ++ Lo) (cells + k) (slots + n) ls u0 b1 a2 b2 b3 b4 a6 a7 T' rfl X'
      exact ⟨t, hst t fun acts => (hs acts).trans t1, t2⟩
    · cases ee
  | inr E =>
    obtain ⟨o, h', ⟨r1, r2, r3⟩, q⟩ := kx E h1 qy
    refine ⟨o, h', ⟨by omega, by omega, fun p e R s m args below meth c C H locs cells slots ls u0 a1 a2 a3 a4 a5 a6 a7 => ?_⟩, q⟩
    intro T hT X
    subst hT
    obtain ⟨vm₁, mk, X₁, hn, hst⟩ := hres p e R s m args below meth c T locs cells slots ls C a1 a2 X
    obtain ⟨T', Lo, k, n, X', b1, b2, b3, b4, b5⟩ := mv_enter (g := F0 m pc ls st) rwY hnl hY C X₁ a1 a3 a4 a5 (by omega) (by omega) rfl (a2.1.trans (hLn.trans C.2.2.1.symm)) (by rw [C.2.1]; exact hd) hn (mv_mov_good hgw _ _ _ _ X₁.warmed (mv_word C hcw hgw)) (by simpa using hmL)
    rcases b5 with ⟨v', ev, hs⟩ | ⟨E', ce, ee, b6, b7, b8, hs⟩
    · cases ev
    · cases ee
      obtain ⟨t, t1, t2⟩ := r3 p e R s m args below meth c C T' (locs ++ Lo) (cells + k) (slots + n) ls u0 st ce X' b1 a2 b2 b3 b4 a6 a7 b6 b7 b8
      exact ⟨t, hst t fun acts => (hs acts).trans t1, t2⟩
end MVE
