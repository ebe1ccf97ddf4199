abbrev mv_M : Type := MethodName × ByteArray × Nat × Option FieldType × List (Nat × Nat × Nat × Nat)
/-- the callee's body, as its word says it: with no table, or with one -/
def mv_cw (Y : mv_M) : Cond := if Y.2.2.2.2 = [] then .code Y.1 Y.2.1 Y.2.2.1 Y.2.2.2.1 else .codeWith Y.1 Y.2.1 Y.2.2.1 Y.2.2.2.1 Y.2.2.2.2
/-! what a callee's words are, in one: of an instance method, of a static one, of a constructor -/
def mv_vc (C0 : String) (Y : mv_M) (n : Nat) : Prop := Cond.instanceMethod Y.1 ∈ lw_tbl ∧ Cond.selects C0 Y.1 Y.1 ∈ lw_tbl ∧ mv_cw Y ∈ lw_tbl ∧ goodWord (mv_cw Y) = true ∧ plainName Y.1.cls = true ∧ (Y.1.cls ≠ "java/lang/invoke/MethodHandle" ∧ Y.1.cls ≠ "java/lang/invoke/VarHandle") ∧ (parseMethodDescriptor Y.1.desc).map (fun d => d.parameters.length) = some n
def mv_sc (Y : mv_M) (n : Nat) : Prop := Cond.static Y.1 ∈ lw_tbl ∧ Cond.initialized Y.1.cls ∈ lw_tbl ∧ mv_cw Y ∈ lw_tbl ∧ goodWord (mv_cw Y) = true ∧ plainName Y.1.cls = true ∧ (Y.1.cls ≠ "java/lang/invoke/MethodHandle" ∧ Y.1.cls ≠ "java/lang/invoke/VarHandle") ∧ (parseMethodDescriptor Y.1.desc).map (fun d => d.parameters.length) = some n
def mv_ic (Y : mv_M) (n : Nat) : Prop := Y.1.name = "<init>" ∧ Y.2.2.2 = (none, []) ∧ Cond.instanceMethod Y.1 ∈ lw_tbl ∧ mv_cw Y ∈ lw_tbl ∧ goodWord (mv_cw Y) = true ∧ plainName Y.1.cls = true ∧ (Y.1.cls ≠ "java/lang/invoke/MethodHandle" ∧ Y.1.cls ≠ "java/lang/invoke/VarHandle") ∧ (parseMethodDescriptor Y.1.desc).map (fun d => d.parameters.length) = some n
/-- of a method by its place in the tables -/
theorem mv_at (i : Nat) {w : Cond} (h : tables_1[i]? = some w) : w ∈ lw_tbl := List.mem_append_right _ (List.mem_of_getElem? h)
theorem mv_atP (i : Nat) {q : MethodName × Nat} (h : lw_privs[i]? = some q) : Cond.selects q.1.cls q.1 q.1 ∈ lw_tbl := List.mem_append_left _ (List.mem_map.mpr ⟨q, List.mem_of_getElem? h, rfl⟩)
