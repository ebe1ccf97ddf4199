/-! the law's entry: classes, arrays, statics -/
section EN
variable {s : State} {args : Array Value}
theorem en_cls (hts : ∀ w ∈ lw_tbl, w.before args s = true) : ∃ D : va_G, ∀ (c : Nat) (q : vw_C), vwCl[c]? = some q → u_Kn s q.1 q.2.1 q.2.2 (D.1 c) (D.2 c) := by
  have key : ∀ q ∈ vwCl, ∃ (cC : ClassId) (iS : Nat → Nat), u_Kn s q.1 q.2.1 q.2.2 cC iS :=
    List.forall_mem_cons.mpr ⟨u_known hts uin_RJ0 (hts _ inst_RJ0), List.forall_mem_cons.mpr ⟨u_known hts uin_RJ4 (hts _ inst_RJ4), List.forall_mem_cons.mpr ⟨u_known hts uin_RX0 (hts _ inst_RX0), List.forall_mem_cons.mpr ⟨u_known hts uin_RX1 (hts _ inst_RX1), List.forall_mem_cons.mpr ⟨u_known hts uin_RX2 (hts _ inst_RX2), List.forall_mem_cons.mpr ⟨u_known hts uin_RX3 (hts _ inst_RX3), List.forall_mem_cons.mpr ⟨u_known hts uin_RX4 (hts _ inst_RX4), List.forall_mem_cons.mpr ⟨u_known hts uin_RX5 (hts _ inst_RX5), List.forall_mem_cons.mpr ⟨u_known hts uin_RX6 (hts _ inst_RX6), List.forall_mem_cons.mpr ⟨u_known hts uin_RX7 (hts _ inst_RX7), List.forall_mem_cons.mpr ⟨u_known hts uin_RX8 (hts _ inst_RX8), List.forall_mem_cons.mpr ⟨u_known hts uin_RX9 (hts _ inst_RX9), List.forall_mem_cons.mpr ⟨u_known hts uin_RX10 (hts _ inst_RX10), List.forall_mem_cons.mpr ⟨u_known hts uin_RX11 (hts _ inst_RX11), List.forall_mem_cons.mpr ⟨u_known hts uin_RX12 (hts _ inst_RX12), List.forall_mem_cons.mpr ⟨u_known hts uin_RX13 (hts _ inst_RX13), fun _ h => nomatch h⟩⟩⟩⟩⟩⟩⟩⟩⟩⟩⟩⟩⟩⟩⟩⟩
  obtain ⟨F, hF⟩ := Classical.axiomOfChoice (r := fun (c : Nat) (p : ClassId × (Nat → Nat)) => ∀ q : vw_C, vwCl[c]? = some q → u_Kn s q.1 q.2.1 q.2.2 p.1 p.2) (fun c => by
    rcases Nat.lt_or_ge c vwCl.length with hc | hc
    · obtain ⟨cC, iS, k⟩ := key _ (List.getElem_mem hc)
      refine ⟨(cC, iS), fun q z => ?_⟩
      rw [List.getElem?_eq_getElem hc] at z
      rw [← Option.some.inj z]
      exact k
    · refine ⟨(0, fun _ => 0), fun q z => ?_⟩
      rw [List.getElem?_eq_none hc] at z
      cases z)
  exact ⟨(fun c => (F c).1, fun c => (F c).2), fun c q h => hF c q h⟩
theorem en_prim {ty : FieldType} (h : (Cond.arrayClass ty).before args s = true) : ∃ c : ClassId, (∃ (k : Class) (comp : ClassId), s.vm.classes[c]? = some k ∧ k.kind = .array comp ty) ∧ ArrOfT s c ty ∧ s.vm.findClass ("[" ++ ty.toString) = some c := by
  obtain ⟨c, k, comp, h1, h2, h3⟩ := Cond.arrayClass_spec h
  exact ⟨c, ⟨k, comp, h2, h3⟩, fun n z => ⟨fun _ w => (by cases w), k, h2, comp, h3⟩, h1⟩
theorem en_obj {C : String} (h : (Cond.arrayOver (.object C)).before args s = true) : ∃ c : ClassId, ArrOfT s c (.object C) ∧ va_RA s c (.object C) := by
  obtain ⟨comp, c, k, h1, -, h2, h3, h4⟩ := Cond.arrayOver_spec h
  exact ⟨c, fun n z => ⟨fun _ w => (by cases w), k, h2, comp, h3⟩, k, comp, h2, h3, h1, h4⟩
theorem en_arr {t : FieldType} (h : (Cond.arrayOver (.array t)).before args s = true) : ∃ c : ClassId, ArrOfT s c (.array t) ∧ s.vm.findClass ("[" ++ (FieldType.array t).toString) = some c := by
  obtain ⟨comp, c, k, h1, -, h2, h3, h4⟩ := arrayOver_specB h
  exact ⟨c, fun n z => ⟨fun _ w => (by cases w), k, h2, comp, h3⟩, h4⟩
theorem en_tys (hts : ∀ w ∈ lw_tbl, w.before args s = true) : ∃ c0 c1 c2 c3 c4 c5 c6 : ClassId, c0 ≠ c1 ∧ ∀ q ∈ ([(c0, .byte), (c1, .int), (c2, .boolean), (c3, .long), (c4, .object "TreePaths$Value"), (c5, .object "TreePaths$Row"), (c6, .array .int)] : List (ClassId × FieldType)), ArrOfT s q.1 q.2 ∧ va_RA s q.1 q.2 := by
  obtain ⟨c0, ⟨k0, m0, a0, b0⟩, e0, f0⟩ := en_prim (hts _ arr_byte)
  obtain ⟨c1, ⟨k1, m1, a1, b1⟩, e1, f1⟩ := en_prim (hts _ arr_int)
  obtain ⟨c2, -, e2, f2⟩ := en_prim (hts _ arr_boolean)
  obtain ⟨c3, -, e3, f3⟩ := en_prim (hts _ arr_long)
  obtain ⟨c4, e4, f4⟩ := en_obj (hts _ aov_Value)
  obtain ⟨c5, e5, f5⟩ := en_obj (hts _ aov_Row)
  obtain ⟨c6, e6, f6⟩ := en_arr (hts _ aov_int)
  refine ⟨c0, c1, c2, c3, c4, c5, c6, fun z => ?_, List.forall_mem_cons.mpr ⟨⟨e0, f0⟩, List.forall_mem_cons.mpr ⟨⟨e1, f1⟩, List.forall_mem_cons.mpr ⟨⟨e2, f2⟩, List.forall_mem_cons.mpr ⟨⟨e3, f3⟩, List.forall_mem_cons.mpr ⟨⟨e4, f4⟩, List.forall_mem_cons.mpr ⟨⟨e5, f5⟩, List.forall_mem_cons.mpr ⟨⟨e6, f6⟩, fun _ h => nomatch h⟩⟩⟩⟩⟩⟩⟩⟩
  subst z
  rw [a0] at a1
  cases a1
  rw [b0] at b1
  cases b1
/-- what goes with the run -/
def en_X (s U : State) : Prop := s.vm.Alike U.vm ∧ ∀ (own : String) (k : Nat) (tx : String) (z : Nat), vk_R own k tx z s → vk_R own k tx z U
theorem en_X_mv : ∀ u U : State, u.WarmedH U.vm → en_X s u → en_X s U := fun u U hW h => ⟨h.1.trans hW.alike, fun own k tx z q => vk_R.warm hW (h.2 own k tx z q)⟩
theorem en_X_0 : en_X s s := ⟨Vm.Alike.refl _, fun _ _ _ _ z => z⟩
def en_G (s : State) (D : va_G) (ts : List (ClassId × FieldType)) : mv_G := (D, ts, s.heap.size, s.heap, en_X s)
theorem en_A : ∀ a : Nat, a < s.heap.size → ¬ s.heap.size ≤ a := fun a h z => by omega
theorem en_ok {D : va_G} {ts : List (ClassId × FieldType)} (ht : ts.map (fun q => q.2) = mv_tys) (hts : ∀ w ∈ lw_tbl, w.before args s = true) (hn : (Jvm.Cond.and given_1 narrow_1).before args s = true) : mv_ok (en_G s D ts) := by
  have hs := flat_of_before _ hn
  refine ⟨ht, fun U hU => va_Z.moved hU.1 (va_Zof (hts _ (mv_at 50 (by decide +kernel))) (hts _ (mv_at 4 (by decide +kernel))) (va_eqi (hs (.eq (.static "java/lang/String" "COMPACT_STRINGS" "Z") (.int 1)) (by decide +kernel))) en_A), ?_⟩
  have hq := va_Zqof (A := fun a => s.heap.size ≤ a) (hts (.laysStatic "jdk/internal/util/Preconditions" "SIOOBE_FORMATTER" "Ljava/util/function/BiFunction;") (mv_at 361 (by decide +kernel))) (hts _ (mv_at 19 (by decide +kernel))) (hs (.isRef (.static "jdk/internal/util/Preconditions" "SIOOBE_FORMATTER" "Ljava/util/function/BiFunction;")) (by decide +kernel)) en_A
  rcases hq with hq | ⟨t, hq⟩
  · exact ⟨.null, Or.inl rfl, fun U hU => va_Z.moved hU.1 hq⟩
  · exact ⟨.ref t, Or.inr ⟨t, rfl⟩, fun U hU => va_Z.moved hU.1 hq⟩
/-- where a text of the code lies -/
theorem en_ref {own tx : String} {k : Nat} (hr : (Cond.stringRef own k tx).before args s = true) (hex : (Cond.exactly (.string own k) "java/lang/String").before args s = true) : ∃ z, vk_R own k tx z s := by
  obtain ⟨a, c, cell, kk, h1, -⟩ := Cond.exactly_spec (args := args) (first := s) (o := none) (s := s) (idx := []) hex
  exact ⟨a, vk_R.of hr h1⟩
theorem en_okX {l : Launch} {D : va_G} {ts : List (ClassId × FieldType)} (hl : l.stackTraces = false) (hts : ∀ w ∈ lw_tbl, w.before args s = true) (hn : (Jvm.Cond.and given_1 narrow_1).before args s = true) : mv_okX l (en_G s D ts) := by
  have hs := flat_of_before _ hn
  have rf : ∀ (own tx : String) (k : Nat), (Cond.stringRef own k tx).before args s = true → (Cond.exactly (.string own k) "java/lang/String").before args s = true → ∃ sa : Nat, ∀ U : State, en_X s U → vk_R own k tx sa U := fun own tx k h1 h2 => (en_ref h1 h2).elim fun z hz => ⟨z, fun U hU => hU.2 _ _ _ _ hz⟩
  refine ⟨hl, fun U hU => vx_Zq.moved hU.1 (vx_Zqof (hts _ (mv_at 482 (by decide +kernel))) (hts _ (mv_at 20 (by decide +kernel))) (hs (.isRef (.static "java/lang/Throwable" "UNASSIGNED_STACK" "[Ljava/lang/StackTraceElement;")) (by decide +kernel)) en_A), fun U hU => vx_Zq.moved hU.1 (vx_Zqof (hts _ (mv_at 484 (by decide +kernel))) (hts _ (mv_at 20 (by decide +kernel))) (hs (.isRef (.static "java/lang/Throwable" "SUPPRESSED_SENTINEL" "Ljava/util/List;")) (by decide +kernel)) en_A), ?_⟩
  exact ⟨rf _ _ _ (hts _ (mv_at 734 (by decide +kernel))) (hs (.exactly (.string RX0 36) "java/lang/String") (by decide +kernel)),
    rf _ _ _ (hts _ (mv_at 840 (by decide +kernel))) (hs (.exactly (.string RX12 83) "java/lang/String") (by decide +kernel)),
    rf _ _ _ (hts _ (mv_at 1152 (by decide +kernel))) (hs (.exactly (.string RX12 98) "java/lang/String") (by decide +kernel)),
    rf _ _ _ (hts _ (mv_at 1171 (by decide +kernel))) (hs (.exactly (.string RX12 106) "java/lang/String") (by decide +kernel)),
    rf _ _ _ (hts _ (mv_at 1199 (by decide +kernel))) (hs (.exactly (.string RX3 32) "java/lang/String") (by decide +kernel)),
    rf _ _ _ (hts _ (mv_at 1212 (by decide +kernel))) (hs (.exactly (.string RX6 21) "java/lang/String") (by decide +kernel)),
    rf _ _ _ (hts _ (mv_at 1219 (by decide +kernel))) (hs (.exactly (.string RX3 87) "java/lang/String") (by decide +kernel))⟩
theorem en_N {D : va_G} {ts : List (ClassId × FieldType)} (hn : (Jvm.Cond.and given_1 narrow_1).before args s = true) : ∀ U : State, (en_G s D ts).2.2.2.2 U → va_Nc xUO xIS U := fun U hU => va_Nc.moved hU.1 (va_Nc.of (flat_of_before _ hn (.not (.castable xUO xIS)) (by decide +kernel)))
end EN
