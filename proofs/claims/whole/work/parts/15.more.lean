section MVG
variable {l : Launch} {G : mv_G} {M : mv_M} {d pc : Nat} {L : List (Option Value)} {st : List Value} {h : mv_H} {Q : mv_O → mv_H → Prop}
theorem q_bast {a n t0 : Nat} {cA : ClassId} {f : Nat → Int32} {i x : Int32} (hd : decode M.2.1 pc = .ok (.bastore, 1)) (ht : G.2.1[t0]? = some (cA, .byte)) (ha : G.2.2.1 ≤ a) (hg : h.2.2 a = some (.inl (cA, n, .inl f))) (hi : vp_in i n)
    (k0 : mv_rq l G M d (pc + 1) L st (mv_set h a (.inl (cA, n, .inl (upd f i.toNatClampNeg (vp_nar .byte x))))) Q) : mv_rq l G M d pc L (.int x :: .int i :: .ref a :: st) h Q := by
  refine mv_wr ha (fun p e R s m args below meth c H locs cells slots ls Q0 C hR hlo kk => ?_) k0
  refine W.bast C.1 C.2.1 (mv_P1 hR ha hg 0 _ rfl) (((mv_K C).2 t0 _ ht).1 n (fun j => .int (f j))) (fun q => by cases q) (by show ¬ (i < 0 ∨ (arrV _ _ _).slots.size ≤ _); rw [arrV_size]; exact hi) rfl rfl hd fun H1 e z oq => ?_
  refine kk H1 _ z oq ?_
  show H1[a]? = some (vp_cell _ _)
  rw [e, vp_cell_i, vp_cell_i, arrV_store]
  congr 2
  funext q
  by_cases hq : q = i.toNatClampNeg
  · subst hq
    simp [updV, upd, vp_nar]
    try rfl
  · simp [updV, upd, hq]
theorem q_zast {a n t0 : Nat} {cA : ClassId} {f : Nat → Int32} {i x : Int32} (hd : decode M.2.1 pc = .ok (.bastore, 1)) (ht : G.2.1[t0]? = some (cA, .boolean)) (ha : G.2.2.1 ≤ a) (hg : h.2.2 a = some (.inl (cA, n, .inl f))) (hi : vp_in i n)
    (k0 : mv_rq l G M d (pc + 1) L st (mv_set h a (.inl (cA, n, .inl (upd f i.toNatClampNeg (vp_nar .boolean x))))) Q) : mv_rq l G M d pc L (.int x :: .int i :: .ref a :: st) h Q := by
  refine mv_wr ha (fun p e R s m args below meth c H locs cells slots ls Q0 C hR hlo kk => ?_) k0
  refine W.zast C.1 C.2.1 (mv_P1 hR ha hg 0 _ rfl) (((mv_K C).2 t0 _ ht).1 n (fun j => .int (f j))) (fun q => by cases q) (by show ¬ (i < 0 ∨ (arrV _ _ _).slots.size ≤ _); rw [arrV_size]; exact hi) rfl rfl hd fun H1 e z oq => ?_
  refine kk H1 _ z oq ?_
  show H1[a]? = some (vp_cell _ _)
  rw [e, vp_cell_i, vp_cell_i, arrV_store]
  congr 2
  funext q
  by_cases hq : q = i.toNatClampNeg
  · subst hq
    simp [updV, upd, vp_nar]
    try rfl
  · simp [updV, upd, hq]
theorem q_last {a n t0 : Nat} {cA : ClassId} {f : Nat → Int64} {i : Int32} {x : Int64} (hd : decode M.2.1 pc = .ok (.lastore, 1)) (ht : G.2.1[t0]? = some (cA, .long)) (ha : G.2.2.1 ≤ a) (hg : h.2.2 a = some (.inl (cA, n, .inr (.inl f)))) (hi : vp_in i n)
    (k0 : mv_rq l G M d (pc + 1) L st (mv_set h a (.inl (cA, n, .inr (.inl (vp_updL f i.toNatClampNeg x))))) Q) : mv_rq l G M d pc L (.long x :: .int i :: .ref a :: st) h Q := by
  refine mv_wr ha (fun p e R s m args below meth c H locs cells slots ls Q0 C hR hlo kk => ?_) k0
  refine W.last C.1 C.2.1 (mv_P1 hR ha hg 0 _ rfl) (((mv_K C).2 t0 _ ht).1 n (fun j => .long (f j))) (fun q => by cases q) (by show ¬ (i < 0 ∨ (arrV _ _ _).slots.size ≤ _); rw [arrV_size]; exact hi) rfl rfl hd fun H1 e z oq => ?_
  refine kk H1 _ z oq ?_
  show H1[a]? = some (vp_cell _ _)
  rw [e, vp_cell_l, vp_cell_l, arrV_store]
  congr 2
  funext q
  by_cases hq : q = i.toNatClampNeg
  · subst hq
    simp [updV, vp_updL]
  · simp [updV, vp_updL, hq]
theorem q_lald {a n t0 : Nat} {cA : ClassId} {f : Nat → Int64} {i : Int32} (hd : decode M.2.1 pc = .ok (.laload, 1)) (ht : G.2.1[t0]? = some (cA, .long)) (hg : h.2.2 a = some (.inl (cA, n, .inr (.inl f)))) (hi : vp_in i n)
    (k0 : mv_rq l G M d (pc + 1) L (.long (f i.toNatClampNeg) :: st) h Q) : mv_rq l G M d pc L (.int i :: .ref a :: st) h Q :=
  mv_pure (fun p e R s m args below meth c H locs cells slots ls Q0 C hR hl kk => by
    have hlt : i.toNatClampNeg < n := Nat.not_le.mp fun q => hi (Or.inr q)
    obtain ⟨cell, h1, h2, h3, -, h5⟩ := mv_arr C hR ht hg
    exact W.lald (v := .long (f i.toNatClampNeg)) C.1 C.2.1 h1 h2 h3 (by rw [h5]; show ¬ (i < 0 ∨ (arrV _ _ _).slots.size ≤ _); rw [arrV_size]; exact hi) (by rw [h5]; show (arrV _ _ _).slots[_]? = _; rw [arrV_read _ _ hlt]) rfl rfl hd (kk ls hl)) k0
theorem q_lcmp {x y : Int64} (hd : decode M.2.1 pc = .ok (.lcmp, 1)) (k0 : mv_rq l G M d (pc + 1) L (.int (lg_cmp x y) :: st) h Q) : mv_rq l G M d pc L (.long y :: .long x :: st) h Q :=
  mv_pure (fun p e R s m args below meth c H locs cells slots ls Q0 C hR hl kk => W.lcmp C.1 C.2.1 hd (kk ls hl)) k0
theorem q_ldc {idx : Nat} {v : Int32} (hd : decode M.2.1 pc = .ok (.ldc idx, 2)) (hlk : Cond.constant M.1.cls idx v ∈ lw_tbl) (k0 : mv_rq l G M d (pc + 2) L (.int v :: st) h Q) : mv_rq l G M d pc L st h Q :=
  mv_pure (fun p e R s m args below meth c H locs cells slots ls Q0 C hR hl kk => lv_ldc C.1 C.2.1 (mv_own C) (mv_word C hlk rfl) hd (kk ls hl)) k0
theorem q_ldc2 {idx : Nat} {v : Int64} (hd : decode M.2.1 pc = .ok (.ldc2_w idx, 3)) (hlk : Cond.constantLong M.1.cls idx v ∈ lw_tbl) (k0 : mv_rq l G M d (pc + 3) L (.long v :: st) h Q) : mv_rq l G M d pc L st h Q :=
  mv_pure (fun p e R s m args below meth c H locs cells slots ls Q0 C hR hl kk => lv_ldc2 C.1 C.2.1 (mv_own C) (mv_word C hlk rfl) hd (kk ls hl)) k0
/-- a String constant, where the facts that go with the run say which cell it is -/
theorem q_ldcS {idx q : Nat} {tx : String} (hd : decode M.2.1 pc = .ok (.ldc idx, 2)) (hG : ∀ U : State, G.2.2.2.2 U → vk_R M.1.cls idx tx q U) (k0 : mv_rq l G M d (pc + 2) L (.ref q :: st) h Q) : mv_rq l G M d pc L st h Q :=
  mv_pure (fun p e R s m args below meth c H locs cells slots ls Q0 C hR hl kk => va_ldcS C.1 C.2.1 (mv_own C) (hG s C.2.2.2.2.2.2.2.2.2.2.1.1) hd (kk ls hl)) k0
/-- a static field that nobody writes -/
theorem q_gets {idx : Nat} {C0 n0 d0 ref : String} {v : Value} (hd : decode M.2.1 pc = .ok (.getstatic idx, 3)) (hlk : Cond.fieldLink M.1.cls idx ref n0 d0 ∈ lw_tbl) (hre : C0 = ref) (hG : ∀ U : State, G.2.2.2.2 U → va_Z C0 n0 d0 v (fun a => G.2.2.1 ≤ a) U G.2.2.2.1)
    (k0 : mv_rq l G M d (pc + 3) L (v :: st) h Q) : mv_rq l G M d pc L st h Q :=
  mv_pure (fun p e R s m args below meth c H locs cells slots ls Q0 C hR hl kk => by
    subst hre
    obtain ⟨cf, kf, fi, f, a, cell, h1, h2, h3, h4, h5, h6, h7, h8⟩ := hG s C.2.2.2.2.2.2.2.2.2.2.1.1
    exact W.gets C.1 C.2.1 (mv_own C) (mv_word C hlk rfl) h1 h2 h3 h4 (by rw [hR.2.2.1 a (Nat.not_le.mp h8)]; exact h5) (fun e => by rw [e] at h6; cases h6) h7 rfl hd (kk ls hl)) k0
theorem q_tableOut {dflt lo hi : Int} {offs : Array Int} {len : Nat} {x : Int32} {tgt : Nat} (hd : decode M.2.1 pc = .ok (.tableswitch dflt lo hi offs, len)) (hx : x.toInt < lo ∨ hi < x.toInt) (ht : (pc : Int) + dflt = (tgt : Int)) (k0 : mv_rq l G M d tgt L st h Q) : mv_rq l G M d pc L (.int x :: st) h Q :=
  mv_pure (fun p e R s m args below meth c H locs cells slots ls Q0 C hR hl kk => lv_tableOut C.1 C.2.1 hd hx ht (kk ls hl)) k0
theorem q_tableIn {dflt lo hi : Int} {offs : Array Int} {len : Nat} {x : Int32} {off : Int} {tgt : Nat} (hd : decode M.2.1 pc = .ok (.tableswitch dflt lo hi offs, len)) (h1 : ¬ x.toInt < lo) (h2 : ¬ hi < x.toInt) (ho : offs[(x.toInt - lo).toNat]? = some off) (ht : (pc : Int) + off = (tgt : Int)) (k0 : mv_rq l G M d tgt L st h Q) : mv_rq l G M d pc L (.int x :: st) h Q :=
  mv_pure (fun p e R s m args below meth c H locs cells slots ls Q0 C hR hl kk => lv_tableIn C.1 C.2.1 hd h1 h2 ho ht (kk ls hl)) k0
theorem q_lookup {dflt : Int} {ps : Array (Int × Int)} {len : Nat} {x : Int32} {off : Int} {tgt : Nat} (hd : decode M.2.1 pc = .ok (.lookupswitch dflt ps, len)) (hp : (ps.toList.zip (ps.toList.drop 1)).all (fun (a, next) => a.1 < next.1) = true) (ho : Op.lookupswitch.offset ps.toList dflt x.toInt = off) (ht : (pc : Int) + off = (tgt : Int)) (k0 : mv_rq l G M d tgt L st h Q) : mv_rq l G M d pc L (.int x :: st) h Q :=
  mv_pure (fun p e R s m args below meth c H locs cells slots ls Q0 C hR hl kk => lv_lookup C.1 C.2.1 hd hp ho ht (kk ls hl)) k0
theorem q_acmp_eq {rx ry : Option Nat} {off : Int} {tgt : Nat} (hd : decode M.2.1 pc = .ok (.if_acmp .eq off, 3)) (ht : (pc : Int) + off = (tgt : Int)) (kt : rx = ry → mv_rq l G M d tgt L st h Q) (kf : ¬ rx = ry → mv_rq l G M d (pc + 3) L st h Q) : mv_rq l G M d pc L (va_rf ry :: va_rf rx :: st) h Q := by
  by_cases hc : rx = ry
  · exact mv_pure (fun p e R s m args below meth c H locs cells slots ls Q0 C hR hl kk => lv_acmp_eq C.1 C.2.1 hd ht (fun _ => kk ls hl) (fun z => absurd hc z)) (kt hc)
  · exact mv_pure (fun p e R s m args below meth c H locs cells slots ls Q0 C hR hl kk => lv_acmp_eq C.1 C.2.1 hd ht (fun z => absurd z hc) (fun _ => kk ls hl)) (kf hc)
theorem q_acmp_ne {rx ry : Option Nat} {off : Int} {tgt : Nat} (hd : decode M.2.1 pc = .ok (.if_acmp .ne off, 3)) (ht : (pc : Int) + off = (tgt : Int)) (kt : ¬ rx = ry → mv_rq l G M d tgt L st h Q) (kf : rx = ry → mv_rq l G M d (pc + 3) L st h Q) : mv_rq l G M d pc L (va_rf ry :: va_rf rx :: st) h Q := by
  by_cases hc : rx = ry
  · exact mv_pure (fun p e R s m args below meth c H locs cells slots ls Q0 C hR hl kk => lv_acmp_ne C.1 C.2.1 hd ht (fun z => absurd hc z) (fun _ => kk ls hl)) (kf hc)
  · exact mv_pure (fun p e R s m args below meth c H locs cells slots ls Q0 C hR hl kk => lv_acmp_ne C.1 C.2.1 hd ht (fun _ => kk ls hl) (fun z => absurd z hc)) (kt hc)
/-- a reference to an object of ours, into an array of its class -/
theorem q_aast {a n t0 ci v : Nat} {cA : ClassId} {r : vw_C} {vs : List Value} {f : Nat → Option Nat} {i : Int32} (hd : decode M.2.1 pc = .ok (.aastore, 1)) (ht : G.2.1[t0]? = some (cA, .object r.1)) (ha : G.2.2.1 ≤ a) (hg : h.2.2 a = some (.inl (cA, n, .inr (.inr (.inr (.inr f)))))) (hv : h.2.2 v = some (.inr (ci, vs))) (hc : vwCl[ci]? = some r) (hi : vp_in i n)
    (k0 : mv_rq l G M d (pc + 1) L st (mv_set h a (.inl (cA, n, .inr (.inr (.inr (.inr (va_up f i.toNatClampNeg (some v)))))))) Q) : mv_rq l G M d pc L (.ref v :: .int i :: .ref a :: st) h Q := by
  refine mv_wr ha (fun p e R s m args below meth c H locs cells slots ls Q0 C hR hlo kk => ?_) k0
  have hlt : i.toNatClampNeg < n := Nat.not_le.mp fun q => hi (Or.inr q)
  have h0 : ¬ i < 0 := fun q => hi (Or.inl q)
  obtain ⟨cellV, g1, g3, -, r', hr', g2, -⟩ := (hR.2.2.2 v _ hv).1
  have hcls := ((mv_K C).1 ci r hc).2
  obtain ⟨kA, comp, k1, k2, k3, -⟩ := ((mv_K C).2 t0 _ ht).2
  have hcomp : comp = G.1.1 ci := Option.some.inj (k3.symm.trans hcls.1)
  subst hcomp
  obtain ⟨kC, hkC, -⟩ := hcls.2
  refine W.aast C.1 C.2.1 (mv_P1 hR ha hg 0 _ rfl) (fun q h => by cases h) (fun h => by cases h) k1 k2 rfl hkC ⟨h0, by show _ < (arrV _ _ _).slots.size; rw [arrV_size]; exact hlt⟩ g1 (fun q h => by rw [h] at g3; cases g3) (by rw [g2]; exact hkC) (by rw [g2]; exact va_assign hcls) rfl rfl hd fun H1 e z oq => ?_
  refine kk H1 _ z oq ?_
  show H1[a]? = some (vp_cell _ _)
  rw [e, vp_cell_q, vp_cell_q, arrV_store]
  congr 2
  funext q
  by_cases hq : q = i.toNatClampNeg
  · subst hq
    simp [updV, va_up, va_rf]
  · simp [updV, va_up, hq]
/-- a new array of references to objects of a class of ours -/
theorem q_anew {t0 idx : Nat} {cA : ClassId} {C0 : String} {n : Int32} {N : Nat} (hd : decode M.2.1 pc = .ok (.anewarray idx, 3)) (hlk : Cond.classLink M.1.cls idx C0 ∈ lw_tbl) (hov : Cond.arrayOver (.object C0) ∈ lw_tbl) (hmo : mv_mov (Cond.arrayOver (.object C0))) (ht : G.2.1[t0]? = some (cA, .object C0))
    (hn : ¬ n < 0) (hN : n.toNatClampNeg = N) (hbytes : N * 4 ≤ 536870912)
    (k0 : mv_rq l G M d (pc + 3) L (.ref h.1 :: st) (mv_new h N (.inl (cA, N, .inr (.inr (.inr (.inr (fun _ => none))))))) Q) : mv_rq l G M d pc L (.int n :: st) h Q := by
  subst hN
  refine mv_mk (fun p e R s m args below meth c H locs cells slots ls Q0 C hR hl hc1 hs1 kk => ?_) k0
  refine W.anew C.1 C.2.1 (mv_own C) (mv_word C hlk rfl) (C.2.2.2.2.2.2.2.2.1 _ hov hmo) rfl hd rfl hn hbytes hc1 hs1 fun cA' kA comp h1 h2 h3 h4 => ?_
  obtain ⟨kA', comp', k1, k2, k3, k4⟩ := ((mv_K C).2 t0 _ ht).2
  have hcA : cA' = cA := Option.some.inj (h1.symm.trans k4)
  subst hcA
  rw [hR.1]
  refine kk _ (by simp) (fun q hq => ?_) ?_
  · rw [Array.getElem?_push, if_neg hq]
  · show (H.push _)[H.size]? = some (vp_cell _ _)
    rw [vp_cell_q]
    have := arrV_new cA' n.toNatClampNeg Value.null
    simp only [Array.getElem?_push_size]
    rw [show (fun j => va_rf ((fun _ => none) j)) = (fun _ : Nat => Value.null) from rfl, ← this]
end MVG
