theorem mv_mov_priv {x : MethodName} : mv_mov (.privateMethod x) := fun s U a a' hW hb => by
  have h1 : (Cond.privateMethod x).before a (s.setVm U.vm) = true := by rw [Cond.privateMethod_setVm hW.alike]; exact hb
  exact h1
section MVS
variable {l : Launch} {G : mv_G} {M : mv_M} {d pc : Nat} {L : List (Option Value)} {st st0 : List Value} {h : mv_H} {Q : mv_O → mv_H → Prop}
/-- a call of the class above, past one's own -/
theorem q_callSU {Y : mv_M} {As : List Value} {b ci idx N : Nat} {fs : List Value} {C0 : String} {T0 : u_T} {Qy : mv_O → mv_H → Prop} (hd : decode M.2.1 pc = .ok (.invokespecial idx, 3)) (hst : st0 = As.reverse ++ .ref b :: st)
    (hg : h.2.2 b = some (.inr (ci, fs))) (hc : vwCl[ci]? = some (C0, T0, N)) (hlk : Cond.methodLink M.1.cls idx Y.1 ∈ lw_tbl) (hins : Cond.instanceMethod Y.1 ∈ lw_tbl) (hsame : Cond.sameMethod Y.1.cls Y.1.cls Y.1.name Y.1.desc ∈ lw_tbl) (hsup : Cond.superclass M.1.cls Y.1.cls ∈ lw_tbl) (hno : Y.1.name ≠ "<init>")
    (hcw : mv_cw Y ∈ lw_tbl) (hgw : goodWord (mv_cw Y) = true) (hY : plainName Y.1.cls = true) (hp : (parseMethodDescriptor Y.1.desc).map (fun d => d.parameters.length) = some As.length)
    (hnl : (mv_ent (.ref b :: As)).length ≤ Y.2.2.1) (hLn : L.length = M.2.2.1) (hmL : (st.map fun v => v.category).sum + (Y.2.2.1 + 11) ≤ 64)
    (hrq : mv_rq l G Y d 0 (mv_in (.ref b :: As) Y.2.2.1) [] h Qy) (kv : ∀ v h1, Qy (.inl v) h1 → mv_rq l G M (d + 1) (pc + 3) L (v.toList ++ st) h1 Q) (kx : ∀ E h1, Qy (.inr E) h1 → mv_xq l G M (d + 1) pc L E h1 Q) : mv_rq l G M (d + 1) pc L st0 h Q := by
  refine mv_call hrq hnl hY hcw hgw hmL hLn hd (fun p e R s m args below meth c T locs cells slots ls C hR hl X => ?_) kv kx
  obtain ⟨cellB, hcell, hobj, hcls⟩ := mv_recv C hR hg hc
  obtain ⟨mk, methM, hnamed, hmethM, hstM, habM⟩ := Cond.instanceMethod_spec (mv_word C hins rfl)
  obtain ⟨methM', cM, hmethM', -, -, -, -, -, -, hsigM⟩ := mv_cw_spec hnamed (mv_word C hcw hgw)
  cases hmethM.symm.trans hmethM'
  obtain ⟨ps, dk, kp, hps, hdk, hkp, hsuper, -, -, hnid⟩ := Cond.superclass_spec (mv_own C) (mv_word C hsup rfl)
  have hpm : ps = mk.cls := Option.some.inj (hps.symm.trans (findClass_of_methodNamed hnamed))
  have hsub : s.vm.isSubclass ps mk.cls = true := by rw [hpm]; simp [Vm.isSubclass, Vm.isSubclassAux]
  obtain ⟨hS, hfc, kC, hkC, hkind⟩ := (mv_K C).1 ci _ hc
  have hcc : G.1.1 ci = cellB.cls := Option.some.inj (hfc.symm.trans hcls)
  obtain ⟨vm₁, X₁, hstep₁⟩ := X.invokespecialUp C.1 (mv_own C) (mv_word C hlk rfl) (mv_word C hsame rfl) hnamed hmethM hstM habM hno hdk hnid hps hsuper hsub (a := b) (cell := cellB) hcell
    (fun z h => by rw [h] at hobj; cases hobj) (by rw [← hcc]; exact hkC) (g := F0 m pc ls st0) rfl (argsL := As) (rest := st) (mv_len hp _ hsigM) hst (by rw [C.2.1]; exact hd)
  exact ⟨vm₁, mk, X₁, X₁.named hnamed, fun target h => hstep₁ target (h [])⟩
/-- a call of a private method of a class above, on an object of ours -/
theorem q_callP {Y : mv_M} {As : List Value} {b ci idx N : Nat} {fs : List Value} {C0 : String} {T0 : u_T} {Qy : mv_O → mv_H → Prop} (hd : decode M.2.1 pc = .ok (.invokevirtual idx, 3)) (hst : st0 = As.reverse ++ .ref b :: st)
    (hg : h.2.2 b = some (.inr (ci, fs))) (hc : vwCl[ci]? = some (C0, T0, N)) (hlk : Cond.methodLink M.1.cls idx Y.1 ∈ lw_tbl) (hins : Cond.instanceMethod Y.1 ∈ lw_tbl) (hsame : Cond.sameMethod Y.1.cls Y.1.cls Y.1.name Y.1.desc ∈ lw_tbl) (hpr : Cond.privateMethod Y.1 ∈ lw_tbl)
    (hcw : mv_cw Y ∈ lw_tbl) (hgw : goodWord (mv_cw Y) = true) (hY : plainName Y.1.cls = true) (hmh : Y.1.cls ≠ "java/lang/invoke/MethodHandle" ∧ Y.1.cls ≠ "java/lang/invoke/VarHandle") (hp : (parseMethodDescriptor Y.1.desc).map (fun d => d.parameters.length) = some As.length)
    (hnl : (mv_ent (.ref b :: As)).length ≤ Y.2.2.1) (hLn : L.length = M.2.2.1) (hmL : (st.map fun v => v.category).sum + (Y.2.2.1 + 11) ≤ 64)
    (hrq : mv_rq l G Y d 0 (mv_in (.ref b :: As) Y.2.2.1) [] h Qy) (kv : ∀ v h1, Qy (.inl v) h1 → mv_rq l G M (d + 1) (pc + 3) L (v.toList ++ st) h1 Q) (kx : ∀ E h1, Qy (.inr E) h1 → mv_xq l G M (d + 1) pc L E h1 Q) : mv_rq l G M (d + 1) pc L st0 h Q := by
  refine mv_call hrq hnl hY hcw hgw hmL hLn hd (fun p e R s m args below meth c T locs cells slots ls C hR hl X => ?_) kv kx
  obtain ⟨cellB, hcell, hobj, hcls⟩ := mv_recv C hR hg hc
  obtain ⟨mk, methM, hnamed, hmethM, hstM, habM⟩ := Cond.instanceMethod_spec (mv_word C hins rfl)
  obtain ⟨methM', cM, hmethM', -, -, -, -, -, -, hsigM⟩ := mv_cw_spec hnamed (mv_word C hcw hgw)
  cases hmethM.symm.trans hmethM'
  obtain ⟨cn, ck, r1, hcn, hck, hni, hf, hn1⟩ := Cond.sameMethod_found (mv_word C hsame rfl)
  have hcm : cn = mk.cls := Option.some.inj (hcn.symm.trans (findClass_of_methodNamed hnamed))
  subst hcm
  have hselP : selectMethod e.platform s.vm cellB.cls mk = .method mk := by rw [Launch.admits_selectMethod X.admits]; exact selectMethod_private hmethM (Cond.privateMethod_at (C.2.2.2.2.2.2.2.2.1 _ hpr mv_mov_priv) mk methM hnamed hmethM)
  obtain ⟨vm₁, X₁, hstep₁⟩ := X.invokevirtual C.1 (mv_own C) (mv_word C hlk rfl) hnamed hmethM hstM hck hni hmh (a := b) (cell := cellB) hcell
    (fun z h => by rw [h] at hobj; cases hobj) hselP hmethM habM hck hni (g := F0 m pc ls st0) rfl (argsL := As) (rest := st) (mv_len hp _ hsigM) hst (by rw [C.2.1]; exact hd)
  exact ⟨vm₁, mk, X₁, X₁.named hnamed, hstep₁⟩
/-- checkcast and instanceof to the object's own class -/
theorem q_castS {b ci idx N : Nat} {fs : List Value} {C0 : String} {T0 : u_T} (hd : decode M.2.1 pc = .ok (.checkcast idx, 3)) (hlk : Cond.classLink M.1.cls idx C0 ∈ lw_tbl) (hg : h.2.2 b = some (.inr (ci, fs))) (hc : vwCl[ci]? = some (C0, T0, N))
    (k0 : mv_rq l G M d (pc + 3) L (.ref b :: st) h Q) : mv_rq l G M d pc L (.ref b :: st) h Q :=
  mv_pure (fun p e R s m args below meth c H locs cells slots ls Q0 C hR hl kk => va_castS C.1 C.2.1 (mv_own C) (mv_word C hlk rfl) ((mv_K C).1 ci _ hc).2 (mv_recv C hR hg hc) hd (kk ls hl)) k0
theorem q_instS {b ci idx N : Nat} {fs : List Value} {C0 : String} {T0 : u_T} (hd : decode M.2.1 pc = .ok (.instanceof idx, 3)) (hlk : Cond.classLink M.1.cls idx C0 ∈ lw_tbl) (hg : h.2.2 b = some (.inr (ci, fs))) (hc : vwCl[ci]? = some (C0, T0, N))
    (k0 : mv_rq l G M d (pc + 3) L (.int 1 :: st) h Q) : mv_rq l G M d pc L (.ref b :: st) h Q :=
  mv_pure (fun p e R s m args below meth c H locs cells slots ls Q0 C hR hl kk => va_instS C.1 C.2.1 (mv_own C) (mv_word C hlk rfl) ((mv_K C).1 ci _ hc).2 (mv_recv C hR hg hc) hd (kk ls hl)) k0
theorem q_castB {a idx t0 : Nat} {cA : ClassId} {x : vp_A} (hd : decode M.2.1 pc = .ok (.checkcast idx, 3)) (hlk : Cond.classLink M.1.cls idx "[B" ∈ lw_tbl) (ht : G.2.1[t0]? = some (cA, .byte)) (ha : G.2.2.1 ≤ a) (hg : h.2.2 a = some (.inl (cA, x)))
    (k0 : mv_rq l G M d (pc + 3) L (.ref a :: st) h Q) : mv_rq l G M d pc L (.ref a :: st) h Q :=
  mv_pure (fun p e R s m args below meth c H locs cells slots ls Q0 C hR hl kk => by
    have k4 := ((mv_K C).2 t0 _ ht).2
    obtain ⟨cell, h1, h2, h3, h4, -⟩ := mv_arr C hR ht hg
    exact va_castE C.1 C.2.1 (mv_own C) (mv_word C hlk rfl) ⟨cell, h1, by
      have := h2.1
      cases hv : cell.vm <;> first | rfl | exact absurd hv (this _), by rw [h4 ha]; exact k4⟩ hd (kk ls hl)) k0
/-- the copy of an array of bytes -/
theorem q_clone {a n t0 idx : Nat} {cA : ClassId} {f : Nat → Int32} (hd : decode M.2.1 pc = .ok (.invokevirtual idx, 3)) (hlk : Cond.methodLink M.1.cls idx ⟨"[B", "clone", "()Ljava/lang/Object;"⟩ ∈ lw_tbl) (hsame : Cond.sameMethod "[B" "java/lang/Object" "clone" "()Ljava/lang/Object;" ∈ lw_tbl)
    (hnat : Cond.native ⟨"java/lang/Object", "clone", "()Ljava/lang/Object;"⟩ ∈ lw_tbl) (hinst : Cond.instanceMethod ⟨"java/lang/Object", "clone", "()Ljava/lang/Object;"⟩ ∈ lw_tbl) (hsel : Cond.selects "[B" ⟨"[B", "clone", "()Ljava/lang/Object;"⟩ ⟨"java/lang/Object", "clone", "()Ljava/lang/Object;"⟩ ∈ lw_tbl)
    (hcl : Cond.castable "[B" "java/lang/Cloneable" ∈ lw_tbl) (ht : G.2.1[t0]? = some (cA, .byte)) (ha : G.2.2.1 ≤ a) (hg : h.2.2 a = some (.inl (cA, n, .inl f))) (hfit : ∀ i, i < n → fits .byte (.int (f i)) = true) (hLn : L.length = M.2.2.1) (hmL : (st.map fun v => v.category).sum ≤ 50)
    (k0 : mv_rq l G M (d + 1) (pc + 3) L (.ref h.1 :: st) (mv_new h n (.inl (cA, n, .inl f))) Q) : mv_rq l G M (d + 1) pc L (.ref a :: st) h Q := by
  refine mv_mk (fun p e R s m args below meth c H locs cells slots ls Q0 C hR hl hc1 hs1 kk => ?_) k0
  have hexec := C.1
  have hnm : s.vm.findClass "[B" = some cA := ((mv_K C).2 t0 _ ht).2
  obtain ⟨c0, t0', f1, f2, f3⟩ := Cond.castable_spec (C.2.2.2.2.2.2.2.2.1 _ hcl mv_mov_cast)
  cases hnm.symm.trans f1
  intro T hT X
  obtain ⟨ce, hce, hc2, hc3, hc4, hc5⟩ := mv_arr C hR ht hg
  have hc4 := hc4 ha
  have hcellT : T.heap[a]? = some ce := by rw [hT]; exact hce
  have hsz : ce.slots.size = n := by rw [hc5]; exact arrV_size _ _ _
  have hpush : ({ cls := ce.cls, slots := ce.slots } : Cell) = vp_cell cA (n, .inl f) := by rw [hc4, hc5]; rfl
  obtain ⟨-, kA, hkA, comp, hkind⟩ := State.isArrayOf_alike X.warmed.alike (((mv_K C).2 t0 _ ht).1 0 (fun _ => .null))
  obtain ⟨-, kS, hkS, compS, hkindS⟩ := ((mv_K C).2 t0 _ ht).1 0 (fun _ => .null)
  have c1 := C.2.2.2.2.2.2.2.2.2.2.2.1
  have c2 := C.2.2.2.2.2.2.2.2.2.2.2.2
  obtain ⟨vm', X', st1⟩ := X.cloneArray hexec (mv_own C) (mv_word C hlk rfl) (mv_word C hsame rfl) (mv_word C hnat rfl) (mv_word C hinst rfl) (mv_word C hsel rfl) (a := a) (cell := ce) hcellT hc2.1 hc3 (by rw [hc4]; exact hnm) f2 (by rw [hc4]; exact f3)
    (fun i v hv => by
      have hk' : T.vm.classes[cA]? = some kA := hkA
      have hv' : (arrV cA n (fun j => .int (f j))).slots[i]? = some v := by rw [hc5] at hv; exact hv
      have hlt : i < n := by
        have := (Array.getElem?_eq_some_iff.mp hv').1
        rw [arrV_size] at this
        exact this
      rw [arrV_read _ _ hlt] at hv'
      cases hv'
      have h1 := hfit i hlt
      rw [hc4]
      show State.fitsSlot T cA _ i _ = true
      simpa [State.fitsSlot, State.slotType?, hk', hkind] using h1)
    (g := F0 m pc ls (.ref a :: st)) rfl (hl.1.trans (hLn.trans C.2.2.1.symm)) rfl (by rw [C.2.1]; exact hd) (by omega) (by show 2 * 0 + _ + 14 ≤ _; omega) hc1 (by rw [hsz]; exact hs1) (hloader := by rw [hc4]; exact Vm.clonesLoader_of_array hkS hkindS)
  rw [hsz, hpush] at X'
  rw [hpush] at st1
  obtain ⟨t, b1, b2⟩ := kk (H.push (vp_cell cA (n, .inl f))) (by rw [Array.size_push]) (fun q hq => by rw [Array.getElem?_push, if_neg hq]) (by show (H.push _)[H.size]? = some (vp_cell _ _); simp) ((T.setVm vm').pushCell (vp_cell cA (n, .inl f))) (by rw [← hT]; rfl) X'
  refine ⟨t, st1 t ?_, b2⟩
  have : T.heap.size = h.1 := by rw [hT]; exact hR.1
  rw [this]
  exact b1
end MVS
theorem cb_1 : Cond.sameMethod "[B" "java/lang/Object" "clone" "()Ljava/lang/Object;" ∈ lw_tbl := mv_at 321 (by decide +kernel)
theorem cb_2 : Cond.native ⟨"java/lang/Object", "clone", "()Ljava/lang/Object;"⟩ ∈ lw_tbl := mv_at 322 (by decide +kernel)
theorem cb_3 : Cond.instanceMethod ⟨"java/lang/Object", "clone", "()Ljava/lang/Object;"⟩ ∈ lw_tbl := mv_at 323 (by decide +kernel)
theorem cb_4 : Cond.selects "[B" ⟨"[B", "clone", "()Ljava/lang/Object;"⟩ ⟨"java/lang/Object", "clone", "()Ljava/lang/Object;"⟩ ∈ lw_tbl := mv_at 324 (by decide +kernel)
theorem cb_5 : Cond.castable "[B" "java/lang/Cloneable" ∈ lw_tbl := mv_at 325 (by decide +kernel)
