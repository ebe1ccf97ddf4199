section MVC
variable {l : Launch} {G : mv_G} {M : mv_M} {d pc : Nat} {L : List (Option Value)} {st : List Value} {h : mv_H} {Q : mv_O → mv_H → Prop}
def mv_Ts : List Cond := lw_tbl.filter goodWord
theorem mv_hts {p : Program} {R : Room} {s : State} {m : MethodId} {args : Array Value} {meth : Method} {c : Code} (C : mv_ctx G M d p R s m args meth c) : ∀ w ∈ mv_Ts, w.before args s = true := fun w hw =>
  C.2.2.2.2.2.2.2.2.1 w (List.mem_filter.mp hw).1 (mv_mov_good (List.mem_filter.mp hw).2)
theorem mv_word {p : Program} {R : Room} {s : State} {m : MethodId} {args : Array Value} {meth : Method} {c : Code} (C : mv_ctx G M d p R s m args meth c) {w : Cond} (hw : w ∈ lw_tbl) (hg : goodWord w = true) : w.before args s = true :=
  C.2.2.2.2.2.2.2.2.1 w hw (mv_mov_good hg)
theorem mv_own {p : Program} {R : Room} {s : State} {m : MethodId} {args : Array Value} {meth : Method} {c : Code} (C : mv_ctx G M d p R s m args meth c) : s.vm.findClass M.1.cls = some m.cls := C.2.2.2.1
theorem mv_K {p : Program} {R : Room} {s : State} {m : MethodId} {args : Array Value} {meth : Method} {c : Code} (C : mv_ctx G M d p R s m args meth c) : va_K G.1 vwCl G.2.1 s := C.2.2.2.2.2.2.2.2.2.1
theorem mv_uin {C : String} {T : u_T} {N : Nat} (hin : ∀ w ∈ u_ws C T N, w ∈ lw_tbl) : ∀ w ∈ u_ws C T N, w ∈ mv_Ts := fun w hw => by
  refine List.mem_filter.mpr ⟨hin w hw, ?_⟩
  obtain ⟨k, -, rfl⟩ := List.mem_map.mp hw
  unfold u_lay
  split <;> rfl
theorem mv_P1 {H : Heap} (hR : mv_rep G h H) {a : Nat} {e : va_E} (ha : G.2.2.1 ≤ a) (hg : h.2.2 a = some e) : va_P G.1 vwCl [(a, e)] H := fun k q hk => by
  have hz : k < 1 := (List.getElem?_eq_some_iff.mp hk).1
  rw [show k = 0 by omega] at hk
  cases hk
  exact (hR.2.2.2 a e hg).2 ha
/-- an array that is read -/
theorem mv_arr {p : Program} {R : Room} {s : State} {m : MethodId} {args : Array Value} {meth : Method} {c : Code} (C : mv_ctx G M d p R s m args meth c) {H : Heap} (hR : mv_rep G h H) {a t0 : Nat} {cA : ClassId} {x : vp_A} {ty : FieldType} (ht : G.2.1[t0]? = some (cA, ty)) (hg : h.2.2 a = some (.inl (cA, x))) : ∃ cell : Cell, H[a]? = some cell ∧ s.isArrayOf cell ty ∧ cell.vm ≠ .unknown ∧ (G.2.2.1 ≤ a → cell.cls = cA) ∧ cell.slots = (vp_cell cA x).slots := by
  obtain ⟨⟨cell, h1, h2, h3, h4, h5⟩, h6⟩ := hR.2.2.2 a _ hg
  obtain ⟨-, k, g1, g2⟩ := ((mv_K C).2 t0 _ ht).1 0 (fun _ => .null)
  refine ⟨cell, h1, ?_, h3, fun hb => ?_, h5⟩
  · rcases h4 with h4 | h4
    · have h4' : cell.cls = cA := h4
      exact ⟨fun k z => (by rw [z] at h2; cases h2), k, by rw [h4']; exact g1, g2⟩
    · exact h4 s C.2.2.2.2.2.2.2.2.2.2.1.1 ty (List.mem_of_getElem? ht)
  · have h7 : H[a]? = some (vp_cell cA x) := h6 hb
    rw [Option.some.inj (h1.symm.trans h7)]
    exact vp_cell_cls _ _
theorem q_getf {a ci k idx N : Nat} {fs : List Value} {v : Value} {ref C0 : String} {T : u_T} (hd : decode M.2.1 pc = .ok (.getfield idx, 3)) (hlk : Cond.fieldLink M.1.cls idx ref (T k).2.1 (T k).2.2.1 ∈ lw_tbl)
    (hc : vwCl[ci]? = some (C0, T, N)) (hin : ∀ w ∈ u_ws C0 T N, w ∈ lw_tbl) (hk : k < N) (hre : (T k).1 = ref) (hg : h.2.2 a = some (.inr (ci, fs))) (hv : fs[k]? = some v)
    (k0 : mv_rq l G M d (pc + 3) L (v :: st) h Q) : mv_rq l G M d pc L (.ref a :: st) h Q :=
  mv_pure (fun p e R s m args below meth c H locs cells slots ls Q0 C hR hl kk => by
    obtain ⟨cell, q1, -, q3, r, h1, -, q4⟩ := (hR.2.2.2 a _ hg).1
    have hr : r = (C0, T, N) := Option.some.inj (h1.symm.trans hc)
    subst hr
    obtain ⟨hS, hfc, kC, hkC, hkind⟩ := (mv_K C).1 ci _ hc
    obtain ⟨cf, kf, fi, f, hi, hsl⟩ := hS k hk
    refine W.getf C.1 C.2.1 (mv_own C) (mv_word C hlk rfl) (by rw [← hre]; exact hi) (u_facts hfc hkC (u_lays (mv_hts C) (mv_uin hin) hk) hi).1 q1 q3 (v := v) ?_ rfl rfl hd (kk ls hl)
    rw [hsl, q4 k hk]
    simp [vp_V, hv]) k0
theorem q_putf {a ci k idx N : Nat} {fs : List Value} {v : Value} {ref C0 : String} {T : u_T} {ty : FieldType} (ty0 : Nat → FieldType) (hty : ∀ k, k < N → parseFieldDescriptor (T k).2.2.1 = some (ty0 k)) (hnm : ∀ a, a < N → ∀ b, b < N → a ≠ b → (T a).2.1 ≠ (T b).2.1)
    (hd : decode M.2.1 pc = .ok (.putfield idx, 3)) (hlk : Cond.fieldLink M.1.cls idx ref (T k).2.1 (T k).2.2.1 ∈ lw_tbl)
    (hc : vwCl[ci]? = some (C0, T, N)) (hin : ∀ w ∈ u_ws C0 T N, w ∈ lw_tbl) (hk : k < N) (hre : (T k).1 = ref) (hfin : (T k).2.2.2 = false) (hpd : parseFieldDescriptor (T k).2.2.1 = some ty) (hn : narrow ty v = v) (hfit : fits ty v = true)
    (ha : G.2.2.1 ≤ a) (hg : h.2.2 a = some (.inr (ci, fs))) (hl : k < fs.length)
    (k0 : mv_rq l G M d (pc + 3) L st (mv_set h a (.inr (ci, fs.set k v))) Q) : mv_rq l G M d pc L (v :: .ref a :: st) h Q := by
  refine mv_wr ha (fun p e R s m args below meth c H locs cells slots ls Q0 C hR hlo kk => ?_) k0
  have hts := mv_hts C
  have hin' := mv_uin hin
  have hK := mv_K C
  have hap := va_apart (own := M.1.cls) hts hin' ty0 hty hnm hK hc
  obtain ⟨r, h1, cell, q1, q2, q3, q4⟩ := (hR.2.2.2 a _ hg).2 ha
  have hr : r = (C0, T, N) := Option.some.inj (h1.symm.trans hc)
  subst hr
  obtain ⟨hS, hfc, kC, hkC, hkind⟩ := hK.1 ci _ hc
  obtain ⟨cf, kf, fi, f, hi, hsl⟩ := hS k hk
  have hlay := hts _ (hin' _ (u_in_lay hk))
  unfold u_lay at hlay
  rw [if_neg (by rw [hfin]; decide)] at hlay
  have hst := (u_facts hfc hkC (u_lays hts hin' hk) hi).1
  have h6 := u_store hfc hkC hkind hlay hi hpd hn hfit
  refine W.putK C.1 C.2.1 (f := f) ⟨mv_own C, mv_word C hlk rfl, ⟨_, _, _, by rw [← hre]; exact hi⟩, hst⟩ (by rw [q2]; exact h6) q1 q3 (by rw [hsl]; exact k2_hasslot (q4 k hk)) rfl rfl hd fun H' e1 e2 e3 => ?_
  rw [hsl] at e1
  exact kk H' _ e2 e3 ⟨_, hc, t_OB.to (V := updV (vp_V fs) k v) ⟨_, e1, q2, q3, t_set q4 hap hk v⟩ (fun j _ => vp_updV_set hl v j)⟩
theorem q_putF {a ci k idx N : Nat} {fs : List Value} {v : Value} {ref C0 : String} {T : u_T} {ty : FieldType} (ty0 : Nat → FieldType) (hty : ∀ k, k < N → parseFieldDescriptor (T k).2.2.1 = some (ty0 k)) (hnm : ∀ a, a < N → ∀ b, b < N → a ≠ b → (T a).2.1 ≠ (T b).2.1)
    (hd : decode M.2.1 pc = .ok (.putfield idx, 3)) (hlk : Cond.fieldLink M.1.cls idx ref (T k).2.1 (T k).2.2.1 ∈ lw_tbl)
    (hc : vwCl[ci]? = some (C0, T, N)) (hin : ∀ w ∈ u_ws C0 T N, w ∈ lw_tbl) (hk : k < N) (hre : (T k).1 = ref) (hfin : (T k).2.2.2 = true) (hmn : M.1.name = "<init>") (hdecl : (T k).1 = M.1.cls) (hpd : parseFieldDescriptor (T k).2.2.1 = some ty) (hn : narrow ty v = v) (hfit : fits ty v = true)
    (ha : G.2.2.1 ≤ a) (hg : h.2.2 a = some (.inr (ci, fs))) (hl : k < fs.length)
    (k0 : mv_rq l G M d (pc + 3) L st (mv_set h a (.inr (ci, fs.set k v))) Q) : mv_rq l G M d pc L (v :: .ref a :: st) h Q := by
  refine mv_wr ha (fun p e R s m args below meth c H locs cells slots ls Q0 C hR hlo kk => ?_) k0
  have hts := mv_hts C
  have hin' := mv_uin hin
  have hK := mv_K C
  have hown := mv_own C
  have hap := va_apart (own := M.1.cls) hts hin' ty0 hty hnm hK hc
  obtain ⟨r, h1, cell, q1, q2, q3, q4⟩ := (hR.2.2.2 a _ hg).2 ha
  have hr : r = (C0, T, N) := Option.some.inj (h1.symm.trans hc)
  subst hr
  obtain ⟨hS, hfc, kC, hkC, hkind⟩ := hK.1 ci _ hc
  obtain ⟨cf, kf, fi, f, hi, hsl⟩ := hS k hk
  have hlay := hts _ (hin' _ (u_in_lay hk))
  unfold u_lay at hlay
  rw [if_pos hfin] at hlay
  have hst := (u_facts hfc hkC (u_lays hts hin' hk) hi).1
  have hcf : m.cls = cf := by
    obtain ⟨_, _, c', _, _, _, -, -, hf', -, -, -, hown2, -⟩ := Cond.laysFinal_spec hlay
    have e1 : c' = cf := by have := hi.symm.trans hf'; simp at this; exact this.1.symm
    rw [hdecl] at hown2
    rw [← e1]; exact Option.some.inj (hown.symm.trans hown2)
  have h6 := u_fits hfc hkC hkind (Or.inr hlay) hi hpd hn hfit
  refine W.putFinK C.1 C.2.1 hown (mv_word C hlk rfl) (by rw [← hre]; exact hi) hst hcf (C.2.2.2.2.2.2.1.trans hmn) (by rw [q2]; exact h6) q1 q3 (by rw [hsl]; exact k2_hasslot (q4 k hk)) rfl rfl hd fun H' e1 e2 e3 => ?_
  rw [hsl] at e1
  exact kk H' _ e2 e3 ⟨_, hc, t_OB.to (V := updV (vp_V fs) k v) ⟨_, e1, q2, q3, t_set q4 hap hk v⟩ (fun j _ => vp_updV_set hl v j)⟩
/-- arrays of ints, bytes, booleans -/
theorem q_iald {a n t0 : Nat} {cA : ClassId} {f : Nat → Int32} {i : Int32} (hd : decode M.2.1 pc = .ok (.iaload, 1)) (ht : G.2.1[t0]? = some (cA, .int)) (hg : h.2.2 a = some (.inl (cA, n, .inl f))) (hi : vp_in i n)
    (k0 : mv_rq l G M d (pc + 1) L (.int (f i.toNatClampNeg) :: st) h Q) : mv_rq l G M d pc L (.int i :: .ref a :: st) h Q :=
  mv_pure (fun p e R s m args below meth c H locs cells slots ls Q0 C hR hl kk => by
    have hlt : i.toNatClampNeg < n := Nat.not_le.mp fun q => hi (Or.inr q)
    obtain ⟨cell, h1, h2, h3, -, h5⟩ := mv_arr C hR ht hg
    exact W.iald (v := .int (f i.toNatClampNeg)) C.1 C.2.1 h1 h2 h3 (by rw [h5]; show ¬ (i < 0 ∨ (arrV _ _ _).slots.size ≤ _); rw [arrV_size]; exact hi) (by rw [h5]; show (arrV _ _ _).slots[_]? = _; rw [arrV_read _ _ hlt]) rfl rfl hd (kk ls hl)) k0
theorem q_bald {a n t0 : Nat} {cA : ClassId} {f : Nat → Int32} {i : Int32} (hd : decode M.2.1 pc = .ok (.baload, 1)) (ht : G.2.1[t0]? = some (cA, .byte)) (hg : h.2.2 a = some (.inl (cA, n, .inl f))) (hi : vp_in i n)
    (k0 : mv_rq l G M d (pc + 1) L (.int (f i.toNatClampNeg) :: st) h Q) : mv_rq l G M d pc L (.int i :: .ref a :: st) h Q :=
  mv_pure (fun p e R s m args below meth c H locs cells slots ls Q0 C hR hl kk => by
    have hlt : i.toNatClampNeg < n := Nat.not_le.mp fun q => hi (Or.inr q)
    obtain ⟨cell, h1, h2, h3, -, h5⟩ := mv_arr C hR ht hg
    exact W.bald (v := .int (f i.toNatClampNeg)) C.1 C.2.1 h1 h2 h3 (by rw [h5]; show ¬ (i < 0 ∨ (arrV _ _ _).slots.size ≤ _); rw [arrV_size]; exact hi) (by rw [h5]; show (arrV _ _ _).slots[_]? = _; rw [arrV_read _ _ hlt]) rfl rfl hd (kk ls hl)) k0
theorem q_zald {a n t0 : Nat} {cA : ClassId} {f : Nat → Int32} {i : Int32} (hd : decode M.2.1 pc = .ok (.baload, 1)) (ht : G.2.1[t0]? = some (cA, .boolean)) (hg : h.2.2 a = some (.inl (cA, n, .inl f))) (hi : vp_in i n)
    (k0 : mv_rq l G M d (pc + 1) L (.int (f i.toNatClampNeg) :: st) h Q) : mv_rq l G M d pc L (.int i :: .ref a :: st) h Q :=
  mv_pure (fun p e R s m args below meth c H locs cells slots ls Q0 C hR hl kk => by
    have hlt : i.toNatClampNeg < n := Nat.not_le.mp fun q => hi (Or.inr q)
    obtain ⟨cell, h1, h2, h3, -, h5⟩ := mv_arr C hR ht hg
    exact W.zald (v := .int (f i.toNatClampNeg)) C.1 C.2.1 h1 h2 h3 (by rw [h5]; show ¬ (i < 0 ∨ (arrV _ _ _).slots.size ≤ _); rw [arrV_size]; exact hi) (by rw [h5]; show (arrV _ _ _).slots[_]? = _; rw [arrV_read _ _ hlt]) rfl rfl hd (kk ls hl)) k0
theorem q_alen {a t0 : Nat} {cA : ClassId} {x : vp_A} {ty : FieldType} (hd : decode M.2.1 pc = .ok (.arraylength, 1)) (ht : G.2.1[t0]? = some (cA, ty)) (hg : h.2.2 a = some (.inl (cA, x)))
    (k0 : mv_rq l G M d (pc + 1) L (.int (Int32.ofNat x.1) :: st) h Q) : mv_rq l G M d pc L (.ref a :: st) h Q :=
  mv_pure (fun p e R s m args below meth c H locs cells slots ls Q0 C hR hl kk => by
    obtain ⟨cell, h1, h2, h3, -, h5⟩ := mv_arr C hR ht hg
    refine W.alen (n := Int32.ofNat x.1) C.1 C.2.1 h1 h2 ?_ rfl rfl hd (kk ls hl)
    rw [h5]
    obtain ⟨n, f | f | f | f | f⟩ := x <;> (show (arrV _ _ _).slots.size.toInt32 = _; rw [arrV_size])) k0
theorem q_aald {a n t0 : Nat} {cA : ClassId} {C0 : String} {f : Nat → Option Nat} {i : Int32} (hd : decode M.2.1 pc = .ok (.aaload, 1)) (ht : G.2.1[t0]? = some (cA, .object C0)) (hg : h.2.2 a = some (.inl (cA, n, .inr (.inr (.inr (.inr f)))))) (hi : vp_in i n)
    (k0 : mv_rq l G M d (pc + 1) L (va_rf (f i.toNatClampNeg) :: st) h Q) : mv_rq l G M d pc L (.int i :: .ref a :: st) h Q :=
  mv_pure (fun p e R s m args below meth c H locs cells slots ls Q0 C hR hl kk => by
    have hlt : i.toNatClampNeg < n := Nat.not_le.mp fun q => hi (Or.inr q)
    obtain ⟨cell, h1, h2, h3, -, h5⟩ := mv_arr C hR ht hg
    exact W.aald (v := va_rf (f i.toNatClampNeg)) (ty := .object C0) C.1 C.2.1 h1 h2 rfl h3 (by rw [h5]; show ¬ (i < 0 ∨ (arrV _ _ _).slots.size ≤ _); rw [arrV_size]; exact hi) (by rw [h5]; show (arrV _ _ _).slots[_]? = _; rw [arrV_read _ _ hlt]) rfl rfl hd (kk ls hl)) k0
theorem q_aaldA {a n t0 : Nat} {cA : ClassId} {ty : FieldType} {f : Nat → Option Nat} {i : Int32} (hd : decode M.2.1 pc = .ok (.aaload, 1)) (ht : G.2.1[t0]? = some (cA, .array ty)) (hg : h.2.2 a = some (.inl (cA, n, .inr (.inr (.inr (.inr f)))))) (hi : vp_in i n)
    (k0 : mv_rq l G M d (pc + 1) L (va_rf (f i.toNatClampNeg) :: st) h Q) : mv_rq l G M d pc L (.int i :: .ref a :: st) h Q :=
  mv_pure (fun p e R s m args below meth c H locs cells slots ls Q0 C hR hl kk => by
    have hlt : i.toNatClampNeg < n := Nat.not_le.mp fun q => hi (Or.inr q)
    obtain ⟨cell, h1, h2, h3, -, h5⟩ := mv_arr C hR ht hg
    exact W.aald (v := va_rf (f i.toNatClampNeg)) (ty := .array ty) C.1 C.2.1 h1 h2 rfl h3 (by rw [h5]; show ¬ (i < 0 ∨ (arrV _ _ _).slots.size ≤ _); rw [arrV_size]; exact hi) (by rw [h5]; show (arrV _ _ _).slots[_]? = _; rw [arrV_read _ _ hlt]) rfl rfl hd (kk ls hl)) k0
theorem q_iast {a n t0 : Nat} {cA : ClassId} {f : Nat → Int32} {i x : Int32} (hd : decode M.2.1 pc = .ok (.iastore, 1)) (ht : G.2.1[t0]? = some (cA, .int)) (ha : G.2.2.1 ≤ a) (hg : h.2.2 a = some (.inl (cA, n, .inl f))) (hi : vp_in i n)
    (k0 : mv_rq l G M d (pc + 1) L st (mv_set h a (.inl (cA, n, .inl (upd f i.toNatClampNeg x)))) Q) : mv_rq l G M d pc L (.int x :: .int i :: .ref a :: st) h Q := by
  refine mv_wr ha (fun p e R s m args below meth c H locs cells slots ls Q0 C hR hlo kk => ?_) k0
  refine W.iast C.1 C.2.1 (mv_P1 hR ha hg 0 _ rfl) (((mv_K C).2 t0 _ ht).1 n (fun j => .int (f j))) (fun q => by cases q) (by show ¬ (i < 0 ∨ (arrV _ _ _).slots.size ≤ _); rw [arrV_size]; exact hi) rfl rfl hd fun H1 e z oq => ?_
  refine kk H1 _ z oq ?_
  show H1[a]? = some (vp_cell _ _)
  rw [e, vp_cell_i, vp_cell_i, arrV_store]
  congr 2
  funext q
  by_cases hq : q = i.toNatClampNeg
  · subst hq
    simp [updV, upd]
  · simp [updV, upd, hq]
end MVC
