/-! the law's entry: texts, tables of digits, the script -/
section ET
variable {s : State} {D : va_G} {c0 c1 : ClassId} {args : Array Value} {v : Nat → Option va_E}
theorem en_len {tm : Term} {q n : Nat} {cell : Cell} (hn : n < 2 ^ 31) (hv : (Term.length tm).eval args s none [] s = some (.int (Int32.ofNat n))) (ht : tm.eval args s none [] s = some (.ref q)) (hc : s.heap[q]? = some cell) : cell.slots.size = n := by
  obtain ⟨b, cell', ht', harr, e⟩ := Term.length_spec hv
  obtain rfl := Value.ref.inj (Option.some.inj (ht.symm.trans ht'))
  obtain ⟨hcell, -, -, -⟩ := State.arrayAt?_spec harr
  obtain rfl := Option.some.inj (hc.symm.trans hcell)
  have hsz : cell.slots.size < 2 ^ 31 := by
    simp only [Term.eval, ht, harr, Option.bind_eq_bind, Option.bind_some] at hv
    by_cases hlt : cell.slots.size < 2147483648
    · exact hlt
    · simp [hlt] at hv
  have e2 : nI n = nI cell.slots.size := Value.int.inj e
  have e3 := congrArg Int32.toInt e2
  rw [nI_toInt hn, nI_toInt hsz] at e3
  omega
/-- an array of bytes or numbers by its premises -/
theorem en_array {tm : Term} {ty : FieldType} {n : Nat} {f : Nat → Int32} (hn : n < 2 ^ 31) (har : (Cond.arrayOf tm ty).before args s = true) (hle : (Cond.eq (.length tm) (.int (Int32.ofNat n))).before args s = true) (hel : ∀ j, j < n → (Cond.eq (.elem tm (.int (Int32.ofNat j))) (.int (f j))).before args s = true) : ∃ (q : Nat) (cell : Cell), tm.eval args s none [] s = some (.ref q) ∧ s.heap[q]? = some cell ∧ isA s ty cell n f := by
  obtain ⟨q, hq, cell, h1, h2, h3, -, -, h6, -⟩ := va_Tof (A := fun _ => False) (f := fun j => .int (f j)) hn har (va_eqt hle) (fun j hj => va_eqt (hel j hj)) (fun _ _ z => z)
  exact ⟨q, cell, hq, h1, h2, h3, en_len hn (va_eqt hle) hq h1, h6⟩
theorem en_slot {o n d : String} {w : Value} {a i : Nat} {A : Nat → Prop} {cell : Cell} (h : va_OF o n d w a A s s.heap) (hs : SlotIs s o n d i) (hc : s.heap[a]? = some cell) : cell.vm ≠ .unknown ∧ cell.slots[i]? = some w := by
  obtain ⟨cf, k, i', f, cell', h1, h2, h3, h4, h5, -⟩ := h
  obtain ⟨cf', kf', fi', fd', g1, g2⟩ := hs
  obtain rfl := Option.some.inj (hc.symm.trans h3)
  have e := Option.some.inj (h1.symm.trans g1)
  cases e
  rw [← g2]
  exact ⟨h4, h5⟩
theorem en_num {ty : FieldType} (hty : ty = .int ∨ ty = .boolean) {w : Value} (h : fits ty w = true) : ∃ x, w = .int x := by
  rcases hty with rfl | rfl <;> cases w <;> first | exact ⟨_, rfl⟩ | (simp [fits] at h)
/-- a field of a String that holds a number -/
theorem en_fld {k : Nat} {ty : FieldType} {cell : Cell} {a : Nat} (hts : ∀ w ∈ lw_tbl, w.before args s = true) (hK : u_Kn s RJ0 TJ0 4 (D.1 0) (D.2 0)) (hf : heapFits s = true) (hk : k < 4) (hd : parseFieldDescriptor (TJ0 k).2.2.1 = some ty) (hty : ty = .int ∨ ty = .boolean) (hc : s.heap[a]? = some cell) (h1 : cell.cls = D.1 0) (h2 : cell.vm.isStatics = false) (h3 : ∀ kk : Class, s.vm.classes[D.1 0]? = some kk → kk.kind = .ordinary → cell.slots.size = kk.instanceTypes.size) : ∃ x, cell.slots[D.2 0 k]? = some (.int x) := by
  obtain ⟨hS, hfc, kC, hkC, hkind⟩ := hK
  obtain ⟨cf, kf, fi, fd, hi, hsl⟩ := hS k hk
  have e1 := (u_facts hfc hkC (u_lays hts uin_RJ0 hk) hi).2.2
  have e2 : fd.type = ty := (State.fieldFound?_type hi hd).2
  have hlt : fd.slot < cell.slots.size := by
    rw [h3 kC hkC hkind]
    exact (Array.getElem?_eq_some_iff.mp e1).1
  obtain ⟨w, hw⟩ : ∃ w, cell.slots[fd.slot]? = some w := ⟨_, Array.getElem?_eq_getElem hlt⟩
  have h4 : cellFits s cell = true := Array.all_eq_true_iff_forall_mem.mp hf cell (Array.mem_of_getElem? hc)
  have h5 := List.all_eq_true.mp h4 fd.slot (List.mem_range.mpr hlt)
  have h6 : s.fitsSlot cell.cls cell.vm fd.slot w = true := by
    simp only [hw] at h5
    exact h5
  have h7 : s.slotType? cell.cls cell.vm fd.slot = some ty := by
    unfold State.slotType?
    rw [h1, hkC]
    cases hv : cell.vm <;> first | (rw [hv] at h2; cases h2; done) | simp [hkind, e1, e2]
  have h8 : fits ty w = true := by
    unfold State.fitsSlot at h6
    rw [h7] at h6
    exact h6
  obtain ⟨x, hx⟩ := en_num hty h8
  rw [← hsl, hw, hx]
  exact ⟨x, rfl⟩
/-- a text of the code -/
theorem en_str {ts : List (ClassId × FieldType)} {own tx : String} {k : Nat} {t : List Nat} (hc0 : mv_t (en_G s D ts) 0 = c0) (hts : ∀ w ∈ lw_tbl, w.before args s = true) (hK : u_Kn s RJ0 TJ0 4 (D.1 0) (D.2 0)) (hf : heapFits s = true) (hv : ∀ a, enR s D c0 c1 a (v a)) (h7 : ∀ j, j < t.length → t.getD j 0 < 128) (hn : t.length < 65536)
    (hr : (Cond.stringRef own k tx).before args s = true) (hex : (Cond.exactly (.string own k) "java/lang/String").before args s = true) (hco : (Cond.eq (.field (.string own k) "java/lang/String" "coder" "B") (.int 0)).before args s = true)
    (har : (Cond.arrayOf (.field (.string own k) "java/lang/String" "value" "[B") .byte).before args s = true) (hle : (Cond.eq (.length (.field (.string own k) "java/lang/String" "value" "[B")) (.int (Int32.ofNat t.length))).before args s = true) (hel : ∀ j, j < t.length → (Cond.eq (.elem (.field (.string own k) "java/lang/String" "value" "[B") (.int (Int32.ofNat j))) (.int (nI (t.getD j 0)))).before args s = true) :
    ∃ z, mv_lt (en_G s D ts) own k tx z ∧ mv_str (en_G s D ts) (s.heap.size, 0, v) z t := by
  obtain ⟨a, c, cell, kk, q1, q2, q3, q4, q5, q6, q7⟩ := Cond.exactly_spec (args := args) (first := s) (o := none) (s := s) (idx := []) hex
  have hfc : s.vm.findClass "java/lang/String" = some (D.1 0) := hK.2.1
  have hcD : c = D.1 0 := Option.some.inj (q2.symm.trans hfc)
  subst hcD
  obtain ⟨q, cb, hq, hcb, hA⟩ := en_array (by omega) har hle hel
  have s0 := en_slot (vk_OFof (A := fun _ => False) q1 hq (fun _ _ z => z)) (hK.1 0 (by decide)) q3
  have s1 := en_slot (vk_OFof (A := fun _ => False) q1 (va_eqt hco) (fun _ _ z => z)) (hK.1 1 (by decide)) q3
  have sz : ∀ k9 : Class, s.vm.classes[D.1 0]? = some k9 → k9.kind = .ordinary → cell.slots.size = k9.instanceTypes.size := fun k9 g1 g2 => by
    cases q4.symm.trans g1
    exact q7 g2
  obtain ⟨hs, e2⟩ := en_fld (k := 2) (ty := .int) hts hK hf (by decide) (by decide +kernel) (Or.inl rfl) q3 q6 q5 sz
  obtain ⟨hz, e3⟩ := en_fld (k := 3) (ty := .boolean) hts hK hf (by decide) (by decide +kernel) (Or.inr rfl) q3 q6 q5 sz
  have hqs : q < s.heap.size := (Array.getElem?_eq_some_iff.mp hcb).1
  have v1 := ((hv a).2 cell q3).1 q hs hz hqs ⟨⟨q6, q5, s0.1⟩, s0.2, s1.2, e2, e3⟩
  obtain ⟨f', v2, ef⟩ := ((hv q).2 cb hcb).2.1 _ _ hA
  refine ⟨a, fun U hU => hU.2 _ _ _ _ (vk_R.of hr q1), q, hs, hz, f', v1, ?_, ef, h7, hn⟩
  rw [hc0]
  exact v2
/-- a table of digits -/
theorem en_dig {ts : List (ClassId × FieldType)} {nm : String} {f : Nat → Int32} (hc0 : mv_t (en_G s D ts) 0 = c0) (hv : ∀ a, enR s D c0 c1 a (v a)) (hl : (Cond.laysStatic "java/lang/Integer" nm "[B").before args s = true) (hini : (Cond.initialized "java/lang/Integer").before args s = true)
    (har : (Cond.arrayOf (.static "java/lang/Integer" nm "[B") .byte).before args s = true) (hle : (Cond.eq (.length (.static "java/lang/Integer" nm "[B")) (.int (Int32.ofNat 100))).before args s = true) (hel : ∀ j, j < 100 → (Cond.eq (.elem (.static "java/lang/Integer" nm "[B") (.int (Int32.ofNat j))) (.int (f j))).before args s = true) :
    ∃ (q : Nat) (g : Nat → Int32), mv_sta (en_G s D ts) nm q ∧ q < s.heap.size ∧ v q = some (.inl (mv_t (en_G s D ts) 0, 100, .inl g)) ∧ ∀ j, j < 100 → g j = f j := by
  obtain ⟨q, cb, hq, hcb, hA⟩ := en_array (by decide) har hle hel
  obtain ⟨f', v2, ef⟩ := ((hv q).2 cb hcb).2.1 _ _ hA
  refine ⟨q, f', fun U hU => va_Z.moved hU.1 (va_Zof hl hini hq en_A), (Array.getElem?_eq_some_iff.mp hcb).1, ?_, ef⟩
  rw [hc0]
  exact v2
end ET
