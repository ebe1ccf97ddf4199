section MVF
variable {l : Launch} {G : mv_G} {M : mv_M} {d pc : Nat} {L : List (Option Value)} {st st0 : List Value} {h : mv_H} {Q : mv_O → mv_H → Prop}
theorem mv_len {y : MethodName} {n : Nat} (hp : (parseMethodDescriptor y.desc).map (fun d => d.parameters.length) = some n) : ∀ sig, parseMethodDescriptor y.desc = some sig → n = sig.parameters.length := fun sig hs => by
  rw [hs] at hp
  exact (Option.some.inj hp).symm
theorem mv_recv {p : Program} {R : Room} {s : State} {m : MethodId} {args : Array Value} {meth : Method} {c : Code} (C : mv_ctx G M d p R s m args meth c) {H : Heap} (hR : mv_rep G h H) {b ci : Nat} {fs : List Value} {q : vw_C} (hg : h.2.2 b = some (.inr (ci, fs))) (hc : vwCl[ci]? = some q) :
    ∃ cell : Cell, H[b]? = some cell ∧ cell.vm.isStatics = false ∧ s.vm.findClass q.1 = some cell.cls := by
  obtain ⟨cell, q1, q2, -, r, h1, q4, -⟩ := (hR.2.2.2 b _ hg).1
  exact ⟨cell, q1, q2, by rw [q4]; exact ((mv_K C).1 ci q hc).2.1⟩
/-- a call of an instance method that the receiver's class declares itself -/
theorem q_callV {Y : mv_M} {As : List Value} {b ci idx N : Nat} {fs : List Value} {C0 : String} {T0 : u_T} {Qy : mv_O → mv_H → Prop} (hd : decode M.2.1 pc = .ok (.invokevirtual idx, 3)) (hst : st0 = As.reverse ++ .ref b :: st)
    (hg : h.2.2 b = some (.inr (ci, fs))) (hc : vwCl[ci]? = some (C0, T0, N)) (hlk : Cond.methodLink M.1.cls idx Y.1 ∈ lw_tbl) (hins : Cond.instanceMethod Y.1 ∈ lw_tbl) (hse : Cond.selects C0 Y.1 Y.1 ∈ lw_tbl)
    (hcw : mv_cw Y ∈ lw_tbl) (hgw : goodWord (mv_cw Y) = true) (hY : plainName Y.1.cls = true) (hmh : Y.1.cls ≠ "java/lang/invoke/MethodHandle" ∧ Y.1.cls ≠ "java/lang/invoke/VarHandle") (hp : (parseMethodDescriptor Y.1.desc).map (fun d => d.parameters.length) = some As.length)
    (hnl : (mv_ent (.ref b :: As)).length ≤ Y.2.2.1) (hLn : L.length = M.2.2.1) (hmL : (st.map fun v => v.category).sum + (Y.2.2.1 + 11) ≤ 64)
    (hrq : mv_rq l G Y d 0 (mv_in (.ref b :: As) Y.2.2.1) [] h Qy) (kv : ∀ v h1, Qy (.inl v) h1 → mv_rq l G M (d + 1) (pc + 3) L (v.toList ++ st) h1 Q) (kx : ∀ E h1, Qy (.inr E) h1 → mv_xq l G M (d + 1) pc L E h1 Q) : mv_rq l G M (d + 1) pc L st0 h Q := by
  refine mv_call hrq hnl hY hcw hgw hmL hLn hd (fun p e R s m args below meth c T locs cells slots ls C hR hl X => ?_) kv kx
  obtain ⟨cellB, hcell, hobj, hcls⟩ := mv_recv C hR hg hc
  obtain ⟨mk, methM, hnamed, hmethM, hstM, habM⟩ := Cond.instanceMethod_spec (mv_word C hins rfl)
  obtain ⟨methM', cM, hmethM', -, -, -, -, -, -, hsigM⟩ := mv_cw_spec hnamed (mv_word C hcw hgw)
  cases hmethM.symm.trans hmethM'
  obtain ⟨c2, r2, m2, q1, q2, q3, q4, kP, hkP, hkPi⟩ := Cond.selects_spec (mv_word C hse rfl)
  cases hcls.symm.trans q1
  cases (State.methodFound?_of_named hnamed hmh).symm.trans q2
  cases hnamed.symm.trans q3
  have hselP : selectMethod e.platform s.vm cellB.cls mk = .method mk := by rw [Launch.admits_selectMethod X.admits]; exact q4
  obtain ⟨vm₁, X₁, hstep₁⟩ := X.invokevirtual C.1 (mv_own C) (mv_word C hlk rfl) hnamed hmethM hstM hkP hkPi hmh (a := b) (cell := cellB) hcell
    (fun z h => by rw [h] at hobj; cases hobj) hselP hmethM habM hkP hkPi (g := F0 m pc ls st0) rfl (argsL := As) (rest := st) (mv_len hp _ hsigM) hst (by rw [C.2.1]; exact hd)
  exact ⟨vm₁, mk, X₁, X₁.named hnamed, hstep₁⟩
/-- a call of a method that the receiver's class has from a class above: named x, found y -/
theorem q_callU {Y : mv_M} {x : MethodName} {owner : String} {As : List Value} {b ci idx N : Nat} {fs : List Value} {C0 : String} {T0 : u_T} {Qy : mv_O → mv_H → Prop} (hd : decode M.2.1 pc = .ok (.invokevirtual idx, 3)) (hst : st0 = As.reverse ++ .ref b :: st)
    (hg : h.2.2 b = some (.inr (ci, fs))) (hc : vwCl[ci]? = some (C0, T0, N)) (hlk : Cond.methodLink M.1.cls idx x ∈ lw_tbl) (hins : Cond.instanceMethod Y.1 ∈ lw_tbl) (hse : Cond.selects C0 x Y.1 ∈ lw_tbl) (hsame : Cond.sameMethod x.cls owner x.name x.desc ∈ lw_tbl)
    (hdec : ∀ (args : Array Value) (s : State), (∀ w ∈ lw_tbl, mv_mov w → w.before args s = true) → va_Decl s ⟨owner, x.name, x.desc⟩) (hom : owner ≠ "java/lang/invoke/MethodHandle" ∧ owner ≠ "java/lang/invoke/VarHandle")
    (hcw : mv_cw Y ∈ lw_tbl) (hgw : goodWord (mv_cw Y) = true) (hY : plainName Y.1.cls = true) (hp : (parseMethodDescriptor x.desc).map (fun d => d.parameters.length) = some As.length)
    (hnl : (mv_ent (.ref b :: As)).length ≤ Y.2.2.1) (hLn : L.length = M.2.2.1) (hmL : (st.map fun v => v.category).sum + (Y.2.2.1 + 11) ≤ 64)
    (hrq : mv_rq l G Y d 0 (mv_in (.ref b :: As) Y.2.2.1) [] h Qy) (kv : ∀ v h1, Qy (.inl v) h1 → mv_rq l G M (d + 1) (pc + 3) L (v.toList ++ st) h1 Q) (kx : ∀ E h1, Qy (.inr E) h1 → mv_xq l G M (d + 1) pc L E h1 Q) : mv_rq l G M (d + 1) pc L st0 h Q := by
  refine mv_call hrq hnl hY hcw hgw hmL hLn hd (fun p e R s m args below meth c T locs cells slots ls C hR hl X => ?_) kv kx
  obtain ⟨cellB, hcell, hobj, hcls⟩ := mv_recv C hR hg hc
  obtain ⟨r0, r, hn, hrm, hstR, hsigR⟩ := hdec args s C.2.2.2.2.2.2.2.2.1
  obtain ⟨cn, ck, r1, hcn, hck, hni, hf, hn1⟩ := Cond.sameMethod_found (mv_word C hsame rfl)
  cases hn.symm.trans hn1
  obtain ⟨mk, methM, hnamed, hmethM, -, habM⟩ := Cond.instanceMethod_spec (mv_word C hins rfl)
  obtain ⟨c2, r2, m2, q1, q2, q3, q4, kP, hkP, hkPi⟩ := Cond.selects_spec (mv_word C hse rfl)
  cases hcls.symm.trans q1
  cases hf.symm.trans q2
  cases hnamed.symm.trans q3
  have hselP : selectMethod e.platform s.vm cellB.cls r0 = .method mk := by rw [Launch.admits_selectMethod X.admits]; exact q4
  obtain ⟨vm₁, X₁, hstep₁⟩ := X.invokevirtualUp C.1 (mv_own C) (mv_word C hlk rfl) (mv_word C hsame rfl) hom hn hrm hstR (a := b) (cell := cellB) hcell
    (fun z h => by rw [h] at hobj; cases hobj) hselP hmethM habM hkP hkPi (g := F0 m pc ls st0) rfl (argsL := As) (rest := st) (mv_len hp _ hsigR) hst (by rw [C.2.1]; exact hd)
  exact ⟨vm₁, mk, X₁, X₁.named hnamed, hstep₁⟩
/-- a call of a static method -/
theorem q_callS {Y : mv_M} {As : List Value} {idx : Nat} {Qy : mv_O → mv_H → Prop} (hd : decode M.2.1 pc = .ok (.invokestatic idx, 3)) (hst : st0 = As.reverse ++ st)
    (hlk : Cond.methodLink M.1.cls idx Y.1 ∈ lw_tbl) (hsta : Cond.static Y.1 ∈ lw_tbl) (hini : Cond.initialized Y.1.cls ∈ lw_tbl)
    (hcw : mv_cw Y ∈ lw_tbl) (hgw : goodWord (mv_cw Y) = true) (hY : plainName Y.1.cls = true) (hmh : Y.1.cls ≠ "java/lang/invoke/MethodHandle" ∧ Y.1.cls ≠ "java/lang/invoke/VarHandle") (hp : (parseMethodDescriptor Y.1.desc).map (fun d => d.parameters.length) = some As.length)
    (hnl : (mv_ent As).length ≤ Y.2.2.1) (hLn : L.length = M.2.2.1) (hmL : (st.map fun v => v.category).sum + (Y.2.2.1 + 11) ≤ 64)
    (hrq : mv_rq l G Y d 0 (mv_in As Y.2.2.1) [] h Qy) (kv : ∀ v h1, Qy (.inl v) h1 → mv_rq l G M (d + 1) (pc + 3) L (v.toList ++ st) h1 Q) (kx : ∀ E h1, Qy (.inr E) h1 → mv_xq l G M (d + 1) pc L E h1 Q) : mv_rq l G M (d + 1) pc L st0 h Q := by
  refine mv_call hrq hnl hY hcw hgw hmL hLn hd (fun p e R s m args below meth c T locs cells slots ls C hR hl X => ?_) kv kx
  have hcwb := mv_word C hcw hgw
  obtain ⟨mk, hnamed⟩ : ∃ mk, s.methodNamed? Y.1 = some mk := by
    unfold mv_cw at hcwb
    split at hcwb
    · exact Cond.code_named hcwb
    · obtain ⟨m9, _, _, hn9, -⟩ := Cond.codeWith_spec hcwb
      exact ⟨m9, hn9⟩
  obtain ⟨methM, cM, hmethM, -, -, -, -, -, -, hsigM⟩ := mv_cw_spec hnamed hcwb
  have hstatic : methM.isStatic = true := Cond.static_spec hnamed hmethM (mv_word C hsta rfl)
  obtain ⟨kP, hkP, -⟩ := className_of_methodNamed hnamed
  have hinitP : kP.init = .initialized := Cond.initialized_spec (findClass_of_methodNamed hnamed) hkP (mv_word C hini rfl)
  obtain ⟨vm₁, X₁, hstep₁⟩ := X.invokestatic C.1 (mv_own C) (mv_word C hlk rfl) hnamed hmethM hstatic hkP hinitP hmh (g := F0 m pc ls st0) rfl (argsL := As) (rest := st) (mv_len hp _ hsigM) hst (by rw [C.2.1]; exact hd)
  exact ⟨vm₁, mk, X₁, X₁.named hnamed, hstep₁⟩
/-- a constructor -/
theorem q_callI {Y : mv_M} {As : List Value} {b idx : Nat} {Qy : mv_O → mv_H → Prop} (hd : decode M.2.1 pc = .ok (.invokespecial idx, 3)) (hst : st0 = As.reverse ++ .ref b :: st) (hnm : Y.1.name = "<init>") (hex : Y.2.2.2 = (none, []))
    (hlk : Cond.methodLink M.1.cls idx Y.1 ∈ lw_tbl) (hins : Cond.instanceMethod Y.1 ∈ lw_tbl)
    (hcw : mv_cw Y ∈ lw_tbl) (hgw : goodWord (mv_cw Y) = true) (hY : plainName Y.1.cls = true) (hmh : Y.1.cls ≠ "java/lang/invoke/MethodHandle" ∧ Y.1.cls ≠ "java/lang/invoke/VarHandle") (hp : (parseMethodDescriptor Y.1.desc).map (fun d => d.parameters.length) = some As.length)
    (hnl : (mv_ent (.ref b :: As)).length ≤ Y.2.2.1) (hLn : L.length = M.2.2.1) (hmL : (st.map fun v => v.category).sum + (Y.2.2.1 + 11) ≤ 64)
    (hrq : mv_rq l G Y d 0 (mv_in (.ref b :: As) Y.2.2.1) [] h Qy) (kv : ∀ v h1, Qy (.inl v) h1 → mv_rq l G M (d + 1) (pc + 3) L (v.toList ++ st) h1 Q) (kx : ∀ E h1, Qy (.inr E) h1 → mv_xq l G M (d + 1) pc L E h1 Q) : mv_rq l G M (d + 1) pc L st0 h Q := by
  refine mv_call hrq hnl hY hcw hgw hmL hLn hd (fun p e R s m args below meth c T locs cells slots ls C hR hl X => ?_) kv kx
  have hpl : e.platform.magicAccessors = ({} : Platform).magicAccessors := by rw [X.admits.platform]
  have hcwb := mv_word C hcw hgw
  unfold mv_cw at hcwb
  rw [if_pos (by rw [hex])] at hcwb
  rw [show Y.2.2.2.1 = none by rw [hex]] at hcwb
  obtain ⟨mk, methM, cM, kP, vm₁, hnamed, hmethM, hcodeM, -, hlocalsM, -, hkP, -, hW₁, hstep₁⟩ := Steps.initColdArgs (e := e) X.here C.1 X.warmed hpl (mv_own C) hnm hmh (mv_word C hlk rfl) (mv_word C hins rfl) hcwb (f := F0 m pc ls st0) rfl (argsL := As) (rest := st) (mv_len hp) hst (by rw [C.2.1]; exact hd)
  exact ⟨vm₁, mk, X.noted hW₁, (X.noted hW₁).named hnamed, hstep₁⟩
/-- a private constructor of a nest mate -/
theorem q_callIN {Y : mv_M} {As : List Value} {b idx : Nat} {host : String} {Qy : mv_O → mv_H → Prop} (hd : decode M.2.1 pc = .ok (.invokespecial idx, 3)) (hst : st0 = As.reverse ++ .ref b :: st) (hnm : Y.1.name = "<init>") (hex : Y.2.2.2 = (none, []))
    (hlk : Cond.methodLinkNest M.1.cls idx Y.1 host ∈ lw_tbl) (hins : Cond.instanceMethod Y.1 ∈ lw_tbl)
    (hcw : mv_cw Y ∈ lw_tbl) (hgw : goodWord (mv_cw Y) = true) (hY : plainName Y.1.cls = true) (hmh : Y.1.cls ≠ "java/lang/invoke/MethodHandle" ∧ Y.1.cls ≠ "java/lang/invoke/VarHandle") (hp : (parseMethodDescriptor Y.1.desc).map (fun d => d.parameters.length) = some As.length)
    (hnl : (mv_ent (.ref b :: As)).length ≤ Y.2.2.1) (hLn : L.length = M.2.2.1) (hmL : (st.map fun v => v.category).sum + (Y.2.2.1 + 11) ≤ 64)
    (hrq : mv_rq l G Y d 0 (mv_in (.ref b :: As) Y.2.2.1) [] h Qy) (kv : ∀ v h1, Qy (.inl v) h1 → mv_rq l G M (d + 1) (pc + 3) L (v.toList ++ st) h1 Q) (kx : ∀ E h1, Qy (.inr E) h1 → mv_xq l G M (d + 1) pc L E h1 Q) : mv_rq l G M (d + 1) pc L st0 h Q := by
  refine mv_call hrq hnl hY hcw hgw hmL hLn hd (fun p e R s m args below meth c T locs cells slots ls C hR hl X => ?_) kv kx
  have hpl : e.platform.magicAccessors = ({} : Platform).magicAccessors := by rw [X.admits.platform]
  have hcwb := mv_word C hcw hgw
  unfold mv_cw at hcwb
  rw [if_pos (by rw [hex])] at hcwb
  rw [show Y.2.2.2.1 = none by rw [hex]] at hcwb
  obtain ⟨mk, methM, cM, kP, vm₁, hnamed, hmethM, hcodeM, -, hlocalsM, -, hkP, -, hW₁, hstep₁⟩ := Steps.initColdArgsNest (e := e) X.here C.1 X.warmed hpl (mv_own C) hnm hmh (C.2.2.2.2.2.2.2.2.1 _ hlk mv_mov_nest) (mv_word C hins rfl) hcwb (f := F0 m pc ls st0) rfl (argsL := As) (rest := st) (mv_len hp) hst (by rw [C.2.1]; exact hd)
  exact ⟨vm₁, mk, X.noted hW₁, (X.noted hW₁).named hnamed, hstep₁⟩
/-- Object's constructor -/
theorem q_objI {a idx : Nat} (hd : decode M.2.1 pc = .ok (.invokespecial idx, 3)) (hlk : Cond.methodLink M.1.cls idx Lib.objectInit ∈ lw_tbl) (hins : Cond.instanceMethod Lib.objectInit ∈ lw_tbl) (hco : Cond.code Lib.objectInit ⟨#[0xb1]⟩ 1 none ∈ lw_tbl)
    (hLn : L.length = M.2.2.1) (hmL : (st.map fun v => v.category).sum ≤ 50) (k0 : mv_rq l G M (d + 1) (pc + 3) L st h Q) : mv_rq l G M (d + 1) pc L (.ref a :: st) h Q :=
  mv_pure (fun p e R s m args below meth c H locs cells slots ls Q0 C hR hl kk => W.objInit C.1 C.2.1 (mv_own C) (mv_word C hlk rfl) (mv_word C hins rfl) (mv_word C hco rfl) rfl (hl.1.trans (hLn.trans C.2.2.1.symm)) rfl hd
    (by have := C.2.2.2.2.2.2.2.2.2.2.2.1; omega) (by have := C.2.2.2.2.2.2.2.2.2.2.2.2; show 2 * 0 + _ + 12 ≤ R.locals; omega) (kk ls hl)) k0
/-- a new object -/
theorem q_new {idx ci N : Nat} {C0 : String} {T : u_T} {fs : List Value} (ty : Nat → FieldType) (hty : ∀ k, k < N → parseFieldDescriptor (T k).2.2.1 = some (ty k)) (hd : decode M.2.1 pc = .ok (.new idx, 3))
    (hlk : Cond.classLink M.1.cls idx C0 ∈ lw_tbl) (hinst : Cond.instantiable C0 N ∈ lw_tbl) (hini : Cond.initialized C0 ∈ lw_tbl) (hin : ∀ w ∈ u_ws C0 T N, w ∈ lw_tbl) (hc : vwCl[ci]? = some (C0, T, N)) (hfs : ∀ j, j < N → defaultValue (ty j) = vp_V fs j)
    (k0 : mv_rq l G M d (pc + 3) L (.ref h.1 :: st) (mv_new h N (.inr (ci, fs))) Q) : mv_rq l G M d pc L st h Q := by
  refine mv_mk (fun p e R s m args below meth c H locs cells slots ls Q0 C hR hl hc1 hs1 kk => ?_) k0
  have hKn := (mv_K C).1 ci _ hc
  refine W.newcK C.1 C.2.1 (mv_own C) (mv_word C hlk rfl) (mv_word C hinst rfl) (mv_word C hini rfl) rfl hd hc1 hs1 hKn.2.1 hR.1 fun H1 kC hkC e1 z1 o1 => ?_
  refine kk H1 (by have := hR.1; omega) (fun q hq => ?_) ?_
  · rcases Nat.lt_or_ge q h.1 with hlt | hge
    · exact o1 q hlt
    · have : h.1 + 1 ≤ q := by have := hR.1; omega
      rw [Array.getElem?_eq_none (by omega), Array.getElem?_eq_none (by have := hR.1; omega)]
  · rw [hR.1]
    exact ⟨_, hc, (u_born ty (mv_hts C) (mv_uin hin) hKn hkC e1 hty).to hfs⟩
/-- a new array of numbers -/
theorem q_newa {t0 : Nat} {cA : ClassId} {atype : ArrayType} {ty : FieldType} {n : Int32} {N : Nat} {a0 : vp_A} (hd : decode M.2.1 pc = .ok (.newarray atype, 2)) (hty : newarray.typeOf atype = ty) (hpt : ∀ C0, ty ≠ .object C0) (harr : Cond.arrayClass ty ∈ lw_tbl) (ht : G.2.1[t0]? = some (cA, ty))
    (ha : vp_cell cA a0 = arrV cA N (fun _ => defaultValue ty)) (hn : ¬ n < 0) (hN : n.toNatClampNeg = N) (hbytes : N * componentBytes ty ≤ 536870912)
    (k0 : mv_rq l G M d (pc + 2) L (.ref h.1 :: st) (mv_new h N (.inl (cA, a0))) Q) : mv_rq l G M d pc L (.int n :: st) h Q := by
  subst hty
  refine mv_mk (fun p e R s m args below meth c H locs cells slots ls Q0 C hR hl hc1 hs1 kk => ?_) k0
  refine va_newaK C.1 C.2.1 (mv_word C harr rfl) rfl hd rfl hn hN hbytes hc1 hs1 hR.1 fun H1 cA' e1 z1 o1 hAr hNm => ?_
  have hcA : cA' = cA := by
    have h9 := ((mv_K C).2 t0 _ ht).2
    have h8 : s.vm.findClass ("[" ++ (newarray.typeOf atype).toString) = some cA := by
      revert h9
      cases atype <;> exact fun z => z
    exact Option.some.inj (hNm.symm.trans h8)
  subst hcA
  refine kk H1 (by have := hR.1; omega) (fun q hq => ?_) ?_
  · rcases Nat.lt_or_ge q h.1 with hlt | hge
    · exact o1 q hlt
    · have : h.1 + 1 ≤ q := by have := hR.1; omega
      rw [Array.getElem?_eq_none (by omega), Array.getElem?_eq_none (by have := hR.1; omega)]
  · show H1[H.size]? = some (vp_cell _ _)
    rw [ha, hR.1]
    exact e1
end MVF
