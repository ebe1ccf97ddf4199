theorem mv_mov_decl {x : MethodName} : mv_mov (.declares x) := fun _ _ _ _ hW hb => va_Nw.use rfl (va_Nw.warmD hW (va_Nw.of rfl hb))
theorem mv_mov_cast {a b : String} : mv_mov (.castable a b) := fun _ _ _ _ hW hb => va_Nw.use rfl (va_Nw.warmC hW (va_Nw.of rfl hb))
theorem mv_mov_gw {w : Cond} (h : mv_gw w = true) : mv_mov w := by
  unfold mv_gw at h
  split at h
  · exact mv_mov_cast
  · exact mv_mov_decl
  · exact mv_mov_nest
  · exact mv_mov_good h
section MVX
variable {l : Launch} {G : mv_G} {M : mv_M} {d pc : Nat} {L : List (Option Value)} {st : List Value} {h : mv_H} {Q : mv_O → mv_H → Prop}
theorem mv_notab {p : Program} {R : Room} {s : State} {m : MethodId} {args : Array Value} {meth : Method} {c : Code} (C : mv_ctx G M d p R s m args meth c) (hH : M.2.2.2.2 = []) : ∀ x ∈ c.exceptionTable.toList, ∀ q, covers x q = false := by
  have h8 := C.2.2.2.2.2.2.2.1
  rw [hH] at h8
  have : c.exceptionTable.toList = [] := List.map_eq_nil_iff.mp h8
  rw [this]
  intro x hx
  cases hx
/-- not caught here: on to the caller -/
theorem q_xout {E : String × Nat} (hH : ∀ z ∈ M.2.2.2.2, ¬ (z.1 ≤ pc ∧ pc < z.2.1)) (hq : Q (.inr E) h) : mv_xq l G M d pc L E h Q := by
  refine ⟨.inr E, h, ⟨Nat.le_refl _, Nat.le_refl _, fun p e R s m args below meth c C T locs cells slots ls u0 st ce X a1 a2 a3 a4 a5 a6 a7 b1 b2 b3 => ?_⟩, hq⟩
  have hout : ∀ x ∈ c.exceptionTable.toList, covers x pc = false := by
    intro x hx
    have h8 := C.2.2.2.2.2.2.2.1
    have hm : (x.startPc, x.endPc, x.handlerPc, x.catchType) ∈ M.2.2.2.2 := by rw [← h8]; exact List.mem_map.mpr ⟨x, hx, rfl⟩
    have := hH _ hm
    simp only [covers, Bool.and_eq_false_iff, decide_eq_false_iff_not]
    by_cases hz : x.startPc ≤ pc
    · exact Or.inr fun hh => this ⟨hz, hh⟩
    · exact Or.inl hz
  obtain ⟨st1, hrun, hend, hW, hsm⟩ := X.leaveThrown E.2 (g := F0 m pc ls st) rfl rfl rfl hout C.2.2.2.2.2.1
  refine ⟨_, st1, .threw E.2, hrun, hend, ⟨ce, rfl, b1, b2, b3⟩, a1, hW, locs, ?_, a3⟩
  rw [show h.1 - s.heap.size = cells by omega, show h.2.1 - u0 = slots by omega]
  exact hsm
/-- 'throw new E("text")': new; dup; ldc; invokespecial; athrow -/
theorem q_throw {ik is ic sa : Nat} {cls text : String} {names : List String} (hl : l.stackTraces = false) (hcls : Bundle.fit cls = true) (hnames : ∀ n ∈ names, Bundle.fit n = true)
    (hk : Cond.classLink M.1.cls ik cls ∈ lw_tbl) (hini : Cond.initialized cls ∈ lw_tbl) (hstr : ∀ U : State, G.2.2.2.2 U → vk_R M.1.cls is text sa U) (hat : ∀ w ∈ vx_atS M.1.cls ic cls names, w ∈ lw_tbl ∧ mv_gw w = true)
    (hU : ∀ U : State, G.2.2.2.2 U → vx_Zq Bundle.tN "UNASSIGNED_STACK" Bundle.steD (fun a => G.2.2.1 ≤ a) U G.2.2.2.1) (hN : ∀ U : State, G.2.2.2.2 U → vx_Zq Bundle.tN "SUPPRESSED_SENTINEL" Bundle.listD (fun a => G.2.2.1 ≤ a) U G.2.2.2.1)
    (hLn : L.length = M.2.2.1) (hH : M.2.2.2.2 = [])
    (d0 : decode M.2.1 pc = .ok (.new ik, 3)) (d3 : decode M.2.1 (pc + 3) = .ok (.dup, 1)) (d4 : decode M.2.1 (pc + 4) = .ok (.ldc is, 2)) (d6 : decode M.2.1 (pc + 6) = .ok (.invokespecial ic, 3)) (d9 : decode M.2.1 (pc + 9) = .ok (.athrow, 1))
    (hnf : names.length + 3 < d) (hst : (st.map fun v => v.category).sum ≤ 20) (hq : Q (.inr (cls, h.1)) (h.1 + 1, h.2.1 + 6, h.2.2)) : mv_rq l G M d pc L st h Q := by
  refine ⟨.inr (cls, h.1), (h.1 + 1, h.2.1 + 6, h.2.2), ⟨Nat.le_succ _, Nat.le_add_right _ _, fun p e R s m args below meth c C H locs cells slots ls u0 a1 a2 a3 a4 a5 a6 a7 => ?_⟩, hq⟩
  have hexec := C.1
  have hb := C.2.1
  have hown := mv_own C
  have hXs := C.2.2.2.2.2.2.2.2.2.2.1.1
  have hfr : d ≤ R.frames := C.2.2.2.2.2.2.2.2.2.2.2.1
  have hlo : 64 * d ≤ R.locals := C.2.2.2.2.2.2.2.2.2.2.2.2
  have hlocks := C.2.2.2.2.2.1
  have hout := fun x hx => mv_notab C hH x hx (pc + 9)
  have hRcells : cells + 1 ≤ R.cells := by have : h.1 + 1 ≤ s.heap.size + R.cells := a6; omega
  have hRslots : slots + 6 ≤ R.slots := by have : h.2.1 + 6 ≤ u0 + R.slots := a7; omega
  intro T hT X
  have htr : e.platform.stackTraces = false := (show e.platform.stackTraces = l.stackTraces by rw [X.admits.platform]).trans hl
  have Y := vx_rebase X (R' := { frames := R.frames, locals := R.locals, cells := 1, slots := 6 }) (Nat.le_refl _) (Nat.le_refl _) hRcells hRslots
  obtain ⟨s', hA⟩ : ∃ z, z = (T.setVm s.vm).setFrames (.invoking m args :: below) := ⟨_, rfl⟩
  rw [← hA] at Y
  have hvm : s'.vm = s.vm := by rw [hA]; rfl
  have hhp : s'.heap = H := by rw [hA]; exact hT
  have hW0 : s.WarmedH s'.vm := by rw [hvm]; exact State.WarmedH.refl s
  have mov : ∀ w ∈ lw_tbl, mv_mov w → w.before args s' = true := fun w hw hm => hm _ _ _ _ hW0 (C.2.2.2.2.2.2.2.2.1 w hw hm)
  have hat' : ∀ w ∈ vx_atS M.1.cls ic cls names, w.before args s' = true := fun w hw => by
    obtain ⟨h1, h2⟩ := hat w hw
    exact mov w h1 (mv_mov_gw h2)
  have hk' : (Cond.classLink M.1.cls ik cls).before args s' = true := mov _ hk (mv_mov_good rfl)
  have hini' : (Cond.initialized cls).before args s' = true := mov _ hini (mv_mov_good rfl)
  have hkeep : ∀ a : Nat, a < G.2.2.2.1.size → ¬ (G.2.2.1 ≤ a) → H[a]? = G.2.2.2.1[a]? := fun a _ hna => a1.2.2.1 a (Nat.not_le.mp hna)
  have hU' : vx_Zq Bundle.tN "UNASSIGNED_STACK" Bundle.steD (fun a => G.2.2.1 ≤ a) s' s'.heap := by rw [hhp]; exact vx_Zq.moved hW0.alike ((hU s hXs).kept hkeep)
  have hN' : vx_Zq Bundle.tN "SUPPRESSED_SENTINEL" Bundle.listD (fun a => G.2.2.1 ≤ a) s' s'.heap := by rw [hhp]; exact vx_Zq.moved hW0.alike ((hN s hXs).kept hkeep)
  have ho : ∀ w ∈ Bundle.ownAtoms M.1.cls ic cls names, w.before args s' = true := vx_own hat' (vx_isRefq hU'.1) (vx_isRefq hN'.1) hU'.2.word hN'.2.word
  have hown' : s'.vm.findClass M.1.cls = some m.cls := by rw [hvm]; exact hown
  have hins : (Cond.instantiable cls 6).before args s' = true := ho _ (by simp [Bundle.ownAtoms])
  obtain ⟨vm₁, cX, kX, hfX, hkX, -, -, X₁, st1⟩ := Y.newCold hexec (own := M.1.cls) (C := cls) (index := ik) (n := 6) hown' hk' hins hini'
    (g := F0 m pc ls st) rfl (by rw [hb]; exact d0) (Nat.le_refl _) (Nat.le_refl _)
  generalize hT1 : (T.setVm vm₁).pushCell { cls := cX, slots := kX.instanceTypes.map defaultValue, vm := .none } = T1 at X₁ st1
  have hcat : (Value.ref T.heap.size).category = 1 := rfl
  have hcellA : T1.heap[T.heap.size]? = some (freshCell cX kX) := by rw [← hT1]; exact State.heap_pushCell_size _ _
  have d3' : decode c.code (pc + 3) = .ok (.dup, 1) := by rw [hb]; exact d3
  have d4' : decode c.code (pc + 4) = .ok (.ldc is, 2) := by rw [hb]; exact d4
  have hstr' : vk_R M.1.cls is text sa s' := vk_R.warm hW0 (hstr s hXs)
  have hcat2 : (Value.ref sa).category = 1 := rfl
  obtain ⟨U, hsteps, hrun, hend, hW, hsame, ce, hce, hO⟩ := X₁.ctorThrowS hexec htr (own := M.1.cls) (cls := cls) (names := names) (ic := ic) hown' hcls hnames ho (fun x hx => nomatch hx) hfX hkX hcellA (by rw [hhp, hT]; exact Nat.le_refl _) (msg := .ref sa) rfl
    (g := { method := m, pc := pc + 6, locals := ls, stack := .ref sa :: .ref T.heap.size :: .ref T.heap.size :: st, locked := none }) rfl (a2.1.trans (hLn.trans C.2.2.1.symm)) rfl rfl (rest := st) rfl
    (by rw [hb]; exact d6) (by rw [hb]; exact d9) hout (by show names.length + 3 < R.frames; omega) (by simp only [List.map_cons, List.sum_cons, hcat, hcat2]; omega) hlocks
  obtain ⟨f1, f2⟩ := vx_frame hsame
  rw [hhp] at f1 f2
  have hWs : s.WarmedH U.vm := State.WarmedH.trans hW0 hW
  have hcl : s.vm.findClass cls = some ce.cls := by
    have h9 := hO.cls
    rw [hvm] at h9
    exact h9
  have hall : s.sameButNew ({ U with vm := s.vm } : State) locs (cells + 1) (slots + 6) := by
    subst hA
    obtain ⟨e1, e2⟩ := hsame
    rw [State.setFrames_setFrames] at e1
    have h2 : (T.setVm s.vm).sameButNew ({ U with vm := s.vm } : State) [] (0 + 1) (0 + 6) := ⟨e1, e2⟩
    have h3 := X.same.trans h2
    rw [List.append_nil] at h3
    exact h3.mono (by omega) (by omega)
  have hTs : T.heap.size = h.1 := by rw [hT]; exact a1.1
  have hlt : T.heap.size < U.heap.size := (Array.getElem?_eq_some_iff.mp hce).1
  have hle : U.heap.size ≤ s.heap.size + (cells + 1) := hall.2.2.1
  have hHs : H.size = h.1 := a1.1
  refine ⟨U, ?_, .threw T.heap.size, hrun, hend, ⟨ce, by rw [hTs], by show U.heap[h.1]? = _; rw [← hTs]; exact hce, hO.vm, hcl⟩, ⟨by show U.heap.size = h.1 + 1; omega, Nat.le_succ_of_le a1.2.1, fun a ha => ?_, fun a ea hea => ?_⟩, hWs, locs, ?_, a3⟩
  · refine st1 _ ?_
    show Steps p.tables e below (T1.setTop { method := m, pc := pc + 3, locals := ls, stack := .ref T.heap.size :: st, locked := none }) _
    jvm_step X₁.here [X₁.here.top, hexec, d3', Value.category]
    exact X₁.ldcString hexec (own := M.1.cls) (text := text) (index := is) (a := sa) hown' hstr'.1 hstr'.2
      (g := { method := m, pc := pc + 4, locals := ls, stack := .ref T.heap.size :: .ref T.heap.size :: st, locked := none }) rfl d4' _ hsteps
  · rw [f2 a (by have := a1.2.1; omega) (fun z hz => nomatch hz)]
    exact a1.2.2.1 a ha
  · have h9 := a1.2.2.2 a ea hea
    exact h9.kept (f2 a h9.lt (fun z hz => nomatch hz))
  · show s.sameButNew _ locs (h.1 + 1 - s.heap.size) (h.2.1 + 6 - u0)
    rw [show h.1 + 1 - s.heap.size = cells + 1 by omega, show h.2.1 + 6 - u0 = slots + 6 by omega]
    exact hall
/-- caught by a row of this method's table -/
theorem q_xcatch {E : String × Nat} {name : String} {pre suf : List (Nat × Nat × Nat × Nat)} {x : Nat × Nat × Nat × Nat} (hH : M.2.2.2.2 = pre ++ x :: suf)
    (hpass : ∀ z ∈ pre, ¬ (z.1 ≤ pc ∧ pc < z.2.1) ∨ (z.2.2.2 ≠ 0 ∧ ∃ nm : String, Cond.classLink M.1.cls z.2.2.2 nm ∈ lw_tbl ∧ ∀ U : State, G.2.2.2.2 U → va_Nc E.1 nm U)) (hx : x.1 ≤ pc ∧ pc < x.2.1) (h0 : x.2.2.2 ≠ 0)
    (hlk : Cond.classLink M.1.cls x.2.2.2 name ∈ lw_tbl) (hcast : Cond.castable E.1 name ∈ lw_tbl) (k0 : mv_rq l G M d x.2.2.1 L [.ref E.2] h Q) : mv_xq l G M d pc L E h Q := by
  obtain ⟨o, h', ⟨r1, r2, r3⟩, q⟩ := k0
  refine ⟨o, h', ⟨r1, r2, fun p e R s m args below meth c C T locs cells slots ls u0 st ce X a1 a2 a3 a4 a5 a6 a7 b1 b2 b3 => ?_⟩, q⟩
  have hpl : e.platform.magicAccessors = ({} : Platform).magicAccessors := by rw [X.admits.platform]
  have h8 := C.2.2.2.2.2.2.2.1
  rw [hH] at h8
  obtain ⟨pre', rest', e1, e2, e3⟩ := List.map_eq_append_iff.mp h8
  obtain ⟨x', suf', e4, e5, e6⟩ := List.map_eq_cons_iff.mp e3
  subst e4
  have hown := mv_own C
  have hXs := C.2.2.2.2.2.2.2.2.2.2.1.1
  have hcastb := C.2.2.2.2.2.2.2.2.1 _ hcast mv_mov_cast
  obtain ⟨c3, c4, hc3, hc4, hasg⟩ := Cond.castable_spec hcastb
  cases Option.some.inj (hc3.symm.trans b3)
  have hx3 : x'.catchType = x.2.2.2 := by rw [← e5]
  have hx2 : x'.handlerPc = x.2.2.1 := by rw [← e5]
  obtain ⟨c5, hc5, hcl5⟩ := Cond.classLink_spec hown (mv_word C hlk rfl) e.platform hpl
  cases Option.some.inj (hc4.symm.trans hc5)
  obtain ⟨vm', X', st9⟩ := X.thenCaughtThrough E.2 (g := F0 m pc ls st) rfl (Steps.refl _) b1 (by rw [b2]; rfl) (by obtain ⟨k9, h9, -⟩ := Vm.findClass_spec b3; exact ⟨k9, h9⟩) pre' x' suf' e1
    (fun z hz => by
      have hm : (z.startPc, z.endPc, z.handlerPc, z.catchType) ∈ pre := by rw [← e2]; exact List.mem_map.mpr ⟨z, hz, rfl⟩
      rcases hpass _ hm with h | ⟨hz0, nm, hl1, hn1⟩
      · refine Or.inl ?_
        show covers z pc = false
        simp only [covers, Bool.and_eq_false_iff, decide_eq_false_iff_not]
        by_cases hzz : z.startPc ≤ pc
        · exact Or.inr fun hh => h ⟨hzz, hh⟩
        · exact Or.inl hzz
      · obtain ⟨c6, hc6, hcl6⟩ := Cond.classLink_spec hown (mv_word C hl1 rfl) e.platform hpl
        obtain ⟨a8, b8, h1, h2, h3⟩ := hn1 s hXs
        cases Option.some.inj (h1.symm.trans b3)
        cases Option.some.inj (h2.symm.trans hc6)
        exact Or.inr ⟨hz0, _, hcl6, h3⟩)
    (by
      show covers x' pc = true
      have hx' : x'.startPc ≤ pc ∧ pc < x'.endPc := by rw [← e5] at hx; exact hx
      simp only [covers, Bool.and_eq_true, decide_eq_true_eq]
      exact hx') (Or.inr ⟨by rw [hx3]; exact h0, c4, by rw [hx3]; exact hcl5, hasg⟩)
  obtain ⟨t, t1, t2⟩ := r3 p e R s m args below meth c C T.heap locs cells slots ls u0 a1 a2 a3 a4 a5 a6 a7 (T.setVm vm') rfl X'
  refine ⟨t, st9.trans ?_, t2⟩
  rw [hx2]
  exact t1
end MVX
