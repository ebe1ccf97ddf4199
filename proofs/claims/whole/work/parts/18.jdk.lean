section MVJ
variable {l : Launch} {G : mv_G} {M : mv_M} {d pc pc' : Nat} {L L' : List (Option Value)} {st st' : List Value} {h : mv_H} {Q : mv_O → mv_H → Prop}
theorem mv_pureR
    (hW : ∀ (p : Program) (e : Env) (R : Room) (s : State) (m : MethodId) (args : Array Value) (below : List Frame) (meth : Method) (c : Code) (H : Heap) (locs : List Loc) (cells slots : Nat) (ls : Array Slot) (Q0 : State → Prop),
      mv_ctx G M d p R s m args meth c → mv_rep G h H → mv_loc L ls → cells ≤ R.cells → slots ≤ R.slots → (∀ ls', mv_loc L' ls' → W p l e R s m args below meth c H locs cells slots Q0 (F0 m pc' ls' st')) → W p l e R s m args below meth c H locs cells slots Q0 (F0 m pc ls st))
    (k : mv_rq l G M d pc' L' st' h Q) : mv_rq l G M d pc L st h Q := by
  obtain ⟨o, h', ⟨r1, r2, r3⟩, q⟩ := k
  refine ⟨o, h', ⟨r1, r2, fun p e R s m args below meth c C H locs cells slots ls u0 a1 a2 a3 a4 a5 a6 a7 => ?_⟩, q⟩
  exact hW p e R s m args below meth c H locs cells slots ls _ C a1 a2 (by omega) (by omega) fun ls' hl' => r3 p e R s m args below meth c C H locs cells slots ls' u0 a1 hl' a3 a4 a5 a6 a7
theorem q_mmin {idx : Nat} {x y : Int32} (hd : decode M.2.1 pc = .ok (.invokestatic idx, 3)) (hlk : Cond.methodLink M.1.cls idx Lib.Math.min.name ∈ lw_tbl) (h1 : Cond.static Lib.Math.min.name ∈ lw_tbl) (h2 : Cond.initialized "java/lang/Math" ∈ lw_tbl) (h3 : Cond.code Lib.Math.min.name Lib.Math.min.code 2 (some .int) ∈ lw_tbl)
    (hLn : L.length = M.2.2.1) (hmL : (st.map fun v => v.category).sum ≤ 50) (k0 : mv_rq l G M (d + 1) (pc + 3) L (.int (if y < x then y else x) :: st) h Q) : mv_rq l G M (d + 1) pc L (.int y :: .int x :: st) h Q :=
  mv_pureR (fun p e R s m args below meth c H locs cells slots ls Q0 C hR hl z1 z2 kk => va_mmin C.1 C.2.1 (C.2.2.1.trans (hLn.symm.trans hl.1.symm)) (mv_own C) (mv_word C hlk rfl) (mv_word C h1 rfl) (mv_word C h2 rfl) (mv_word C h3 rfl)
    (by have := C.2.2.2.2.2.2.2.2.2.2.2.1; omega) (by have := C.2.2.2.2.2.2.2.2.2.2.2.2; omega) z1 z2 hd (kk ls hl)) k0
theorem q_mmax {idx : Nat} {x y : Int32} (hd : decode M.2.1 pc = .ok (.invokestatic idx, 3)) (hlk : Cond.methodLink M.1.cls idx Lib.Math.max.name ∈ lw_tbl) (h1 : Cond.static Lib.Math.max.name ∈ lw_tbl) (h2 : Cond.initialized "java/lang/Math" ∈ lw_tbl) (h3 : Cond.code Lib.Math.max.name Lib.Math.max.code 2 (some .int) ∈ lw_tbl)
    (hLn : L.length = M.2.2.1) (hmL : (st.map fun v => v.category).sum ≤ 50) (k0 : mv_rq l G M (d + 1) (pc + 3) L (.int (if x < y then y else x) :: st) h Q) : mv_rq l G M (d + 1) pc L (.int y :: .int x :: st) h Q :=
  mv_pureR (fun p e R s m args below meth c H locs cells slots ls Q0 C hR hl z1 z2 kk => va_mmax C.1 C.2.1 (C.2.2.1.trans (hLn.symm.trans hl.1.symm)) (mv_own C) (mv_word C hlk rfl) (mv_word C h1 rfl) (mv_word C h2 rfl) (mv_word C h3 rfl)
    (by have := C.2.2.2.2.2.2.2.2.2.2.2.1; omega) (by have := C.2.2.2.2.2.2.2.2.2.2.2.2; omega) z1 z2 hd (kk ls hl)) k0
/-- System.arraycopy of bytes, from one array to another, or within one -/
theorem q_copyb {idx a0 a n0 n1 t0 : Nat} {cA : ClassId} {f g : Nat → Int32} {sp dp n : Nat} (hd : decode M.2.1 pc = .ok (.invokestatic idx, 3)) (hlk : Cond.methodLink M.1.cls idx arraycopyName ∈ lw_tbl) (hnat : Cond.native arraycopyName ∈ lw_tbl) (hsta : Cond.static arraycopyName ∈ lw_tbl) (hini : Cond.initialized "java/lang/System" ∈ lw_tbl)
    (ht : G.2.1[t0]? = some (cA, .byte)) (f0 : h.2.2 a0 = some (.inl (cA, n0, .inl f))) (f1 : h.2.2 a = some (.inl (cA, n1, .inl g))) (ha : G.2.2.1 ≤ a) (h4 : sp + n ≤ n0) (h5 : dp + n ≤ n1) (hs0 : sp < 2 ^ 31) (hd0 : dp < 2 ^ 31) (hn0 : n < 2 ^ 31)
    (hfit : ∀ i, i < n → fits .byte (.int (f (sp + i))) = true) (hLn : L.length = M.2.2.1) (hmL : (st.map fun v => v.category).sum + (nativeFrameWords "java/lang/System" "arraycopy" 5 + 11) ≤ 64)
    (k0 : mv_rq l G M (d + 1) (pc + 3) L st (mv_set h a (.inl (cA, n1, .inl (va_cpy f g sp dp n)))) Q) : mv_rq l G M (d + 1) pc L (.int (nI n) :: .int (nI dp) :: .ref a :: .int (nI sp) :: .ref a0 :: st) h Q := by
  obtain ⟨o, h', ⟨r1, r2, r3⟩, q⟩ := k0
  refine ⟨o, h', ⟨r1, r2, fun p e R s m args below meth c C H locs cells slots ls u0 a1 a2 a3 a4 a5 a6 a7 => ?_⟩, q⟩
  intro T hT X
  obtain ⟨ce0, hc0, ⟨hs01, k0, hk0, cm0, hkk0⟩, hs02, -, hs04⟩ := mv_arr C a1 ht f0
  have hc1 : H[a]? = some (vp_cell cA (n1, .inl g)) := (a1.2.2.2 a _ f1).2 ha
  have hK := mv_K C
  obtain ⟨-, k1, hk1, cm1, hkk1⟩ := (hK.2 t0 _ ht).1 n1 (fun j => .int (g j))
  have cs : (nI sp).toNatClampNeg = sp := nI_clamp hs0
  have cd : (nI dp).toNatClampNeg = dp := nI_clamp hd0
  have cn : (nI n).toNatClampNeg = n := nI_clamp hn0
  have ts : (nI sp).toInt = (sp : Int) := nI_toInt hs0
  have td : (nI dp).toInt = (dp : Int) := nI_toInt hd0
  have tn : (nI n).toInt = (n : Int) := nI_toInt hn0
  obtain ⟨vm', X', step⟩ := X.arraycopy C.1 (mv_own C) (mv_word C hlk rfl) (mv_word C hnat rfl) (mv_word C hsta rfl) (mv_word C hini rfl) (src := a0) (dst := a) (cs := ce0) (cd := vp_cell cA (n1, .inl g)) (srcPos := nI sp) (destPos := nI dp) (n := nI n) (by rw [hT]; exact hc0) (by rw [hT]; exact hc1)
    hs01 (fun _ h => by cases h) hs02 (fun h => by cases h) hk0 hk1 hkk0 hkk1 (by simp [refKind]) (nI_pos hs0) (nI_pos hd0) (nI_pos hn0)
    (by rw [ts, tn, hs04]; show ¬ _ > ((arrV cA n0 (fun j => .int (f j))).slots.size : Int); rw [arrV_size]; omega)
    (by rw [td, tn]; show ¬ _ > ((arrV cA n1 (fun j => .int (g j))).slots.size : Int); rw [arrV_size]; omega)
    (fun vm₁ _ i hi => by
      rw [cn] at hi
      have e : ce0.slots.getD ((nI sp).toNatClampNeg + i) .null = .int (f (sp + i)) := by
        rw [hs04]
        show (arrV cA n0 (fun j => .int (f j))).slots.getD _ _ = _
        rw [cs, Array.getD_eq_getD_getElem?, arrV_read _ _ (by omega)]
        rfl
      refine ⟨?_, ?_⟩
      · rw [e]
        exact hfit i hi
      · rw [e]
        exact trivial)
    (g := F0 m pc ls (.int (nI n) :: .int (nI dp) :: .ref a :: .int (nI sp) :: .ref a0 :: st)) rfl (a2.1.trans (hLn.trans C.2.2.1.symm)) (rest := st) rfl (by rw [C.2.1]; exact hd) (by have := C.2.2.2.2.2.2.2.2.2.2.2.1; omega) (by have := C.2.2.2.2.2.2.2.2.2.2.2.2; show 2 * 0 + _ + _ ≤ _; omega)
  have e1 : copied ce0 (vp_cell cA (n1, .inl g)) (nI sp) (nI dp) (nI n) = vp_cell cA (n1, .inl (va_cpy f g sp dp n)) := by
    have := va_copied (fun z => .int z) cA cA f g (n0 := n0) (n1 := n1) (sp := sp) (dp := dp) (n := n) h4
    unfold copied
    rw [cs, cd, cn, show ce0.stretch sp n = (vp_cell cA (n0, .inl f)).stretch sp n by unfold Cell.stretch; rw [hs04]]
    exact this
  rw [e1] at X' step
  have hl : a < H.size := (Array.getElem?_eq_some_iff.mp hc1).1
  have hheap : ((T.setVm vm').setCell a (vp_cell cA (n1, .inl (va_cpy f g sp dp n)))).heap = H.setIfInBounds a (vp_cell cA (n1, .inl (va_cpy f g sp dp n))) := by rw [← hT]; rfl
  have oq : ∀ q : Nat, q ≠ a → (H.setIfInBounds a (vp_cell cA (n1, .inl (va_cpy f g sp dp n))))[q]? = H[q]? := fun q hq => by simp [Array.getElem?_setIfInBounds, Ne.symm hq]
  obtain ⟨b1, b2, b3, b4⟩ := a1
  obtain ⟨t, t1, t2⟩ := r3 p e R s m args below meth c C (H.setIfInBounds a (vp_cell cA (n1, .inl (va_cpy f g sp dp n)))) _ cells slots ls u0
    ⟨by simp; exact b1, b2, fun x hx => by rw [oq x (by omega)]; exact b3 x hx, fun x ex hx => by
      by_cases e0 : x = a
      · subst e0
        have h0 : (if x = x then some (Sum.inl (cA, n1, Sum.inl (va_cpy f g sp dp n))) else h.2.2 x) = some ex := hx
        rw [if_pos rfl] at h0
        rw [← Option.some.inj h0]
        refine mv_is.of ?_
        show (H.setIfInBounds x _)[x]? = some _
        simp [Array.getElem?_setIfInBounds, hl]
      · have h0 : (if x = a then some (Sum.inl (cA, n1, Sum.inl (va_cpy f g sp dp n))) else h.2.2 x) = some ex := hx
        rw [if_neg e0] at h0
        exact (b4 x ex h0).kept (oq x e0)⟩ a2 (fun y hy => by
      rcases List.mem_append.mp hy with h2 | h2
      · exact a3 y h2
      · obtain ⟨z, -, hz⟩ := List.mem_map.mp h2
        rw [← hz]
        exact ha) a4 a5 a6 a7 _ hheap X'
  exact ⟨t, step t t1, t2⟩
end MVJ
