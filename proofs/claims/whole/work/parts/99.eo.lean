/-! the law's entry, and the claim -/
section EE
variable {s : State} {D : va_G} {c0 c1 : ClassId} {args : Array Value} {v : Nat → Option va_E}
theorem en_lE {ts : List (ClassId × FieldType)} (hc0 : mv_t (en_G s D ts) 0 = c0) (hts : ∀ w ∈ lw_tbl, w.before args s = true) (hn : (Jvm.Cond.and given_1 narrow_1).before args s = true) (hK : u_Kn s RJ0 TJ0 4 (D.1 0) (D.2 0)) (hf : heapFits s = true) (hv : ∀ a, enR s D c0 c1 a (v a)) : lE (en_G s D ts) (s.heap.size, 0, v) := by
  have hs := flat_of_before _ hn
  have lit : ∀ (own tx : String) (k : Nat) (t : List Nat), (∀ j, j < t.length → t.getD j 0 < 128) → t.length < 65536 → Cond.stringRef own k tx ∈ lw_tbl → Cond.exactly (.string own k) "java/lang/String" ∈ flatC (Jvm.Cond.and given_1 narrow_1) → Cond.eq (.field (.string own k) "java/lang/String" "coder" "B") (.int 0) ∈ flatC (Jvm.Cond.and given_1 narrow_1) → Cond.arrayOf (.field (.string own k) "java/lang/String" "value" "[B") .byte ∈ flatC (Jvm.Cond.and given_1 narrow_1) → Cond.eq (.length (.field (.string own k) "java/lang/String" "value" "[B")) (.int (Int32.ofNat t.length)) ∈ flatC (Jvm.Cond.and given_1 narrow_1) → (∀ j, j < t.length → Cond.eq (.elem (.field (.string own k) "java/lang/String" "value" "[B") (.int (Int32.ofNat j))) (.int (nI (t.getD j 0))) ∈ flatC (Jvm.Cond.and given_1 narrow_1)) → ∃ z, mv_lt (en_G s D ts) own k tx z ∧ mv_str (en_G s D ts) (s.heap.size, 0, v) z t :=
    fun own tx k t g1 g2 g3 g4 g5 g6 g7 g8 => en_str hc0 hts hK hf hv g1 g2 (hts _ g3) (hs _ g4) (hs _ g5) (hs _ g6) (hs _ g7) (fun j hj => hs _ (g8 j hj))
  have l0 := lit RJ1 "" 151 [] (by decide +kernel) (by decide +kernel) (mv_at 786 (by decide +kernel)) (by decide +kernel) (by decide +kernel) (by decide +kernel) (by decide +kernel) (by decide +kernel)
  have l1 := lit RX0 "" 9 [] (by decide +kernel) (by decide +kernel) (mv_at 85 (by decide +kernel)) (by decide +kernel) (by decide +kernel) (by decide +kernel) (by decide +kernel) (by decide +kernel)
  have l2 := lit RX0 "null" 81 tNull (by decide +kernel) (by decide +kernel) (mv_at 819 (by decide +kernel)) (by decide +kernel) (by decide +kernel) (by decide +kernel) (by decide +kernel) (by decide +kernel)
  have l3 := lit RX0 "false" 86 tFalse (by decide +kernel) (by decide +kernel) (mv_at 824 (by decide +kernel)) (by decide +kernel) (by decide +kernel) (by decide +kernel) (by decide +kernel) (by decide +kernel)
  have l4 := lit RX0 "true" 88 tTrue (by decide +kernel) (by decide +kernel) (mv_at 825 (by decide +kernel)) (by decide +kernel) (by decide +kernel) (by decide +kernel) (by decide +kernel) (by decide +kernel)
  have l5 := lit RX1 "" 22 [] (by decide +kernel) (by decide +kernel) (mv_at 170 (by decide +kernel)) (by decide +kernel) (by decide +kernel) (by decide +kernel) (by decide +kernel) (by decide +kernel)
  have l6 := lit RX2 "" 29 [] (by decide +kernel) (by decide +kernel) (mv_at 710 (by decide +kernel)) (by decide +kernel) (by decide +kernel) (by decide +kernel) (by decide +kernel) (by decide +kernel)
  have l7 := lit RX8 "" 7 [] (by decide +kernel) (by decide +kernel) (mv_at 940 (by decide +kernel)) (by decide +kernel) (by decide +kernel) (by decide +kernel) (by decide +kernel) (by decide +kernel)
  have l8 := lit RX11 "" 18 [] (by decide +kernel) (by decide +kernel) (mv_at 176 (by decide +kernel)) (by decide +kernel) (by decide +kernel) (by decide +kernel) (by decide +kernel) (by decide +kernel)
  have l9 := lit RX5 "length" 225 tLen (by decide +kernel) (by decide +kernel) (mv_at 1110 (by decide +kernel)) (by decide +kernel) (by decide +kernel) (by decide +kernel) (by decide +kernel) (by decide +kernel)
  have l10 := lit RX5 "count" 233 tCnt (by decide +kernel) (by decide +kernel) (mv_at 1116 (by decide +kernel)) (by decide +kernel) (by decide +kernel) (by decide +kernel) (by decide +kernel) (by decide +kernel)
  have l11 := lit RX1 "['" 85 [91, 39] (by decide +kernel) (by decide +kernel) (mv_at 661 (by decide +kernel)) (by decide +kernel) (by decide +kernel) (by decide +kernel) (by decide +kernel) (by decide +kernel)
  have l12 := lit RX1 "']" 90 [39, 93] (by decide +kernel) (by decide +kernel) (mv_at 663 (by decide +kernel)) (by decide +kernel) (by decide +kernel) (by decide +kernel) (by decide +kernel) (by decide +kernel)
  have l13 := lit RX3 "" 240 [] (by decide +kernel) (by decide +kernel) (mv_at 1290 (by decide +kernel)) (by decide +kernel) (by decide +kernel) (by decide +kernel) (by decide +kernel) (by decide +kernel)
  obtain ⟨q1, f1, d1, d2, d3, d4⟩ := en_dig (nm := "DigitOnes") (f := fun j => nI (48 + j % 10)) hc0 hv (hts _ (mv_at 559 (by decide +kernel))) (hts _ (mv_at 24 (by decide +kernel))) (hs _ (List.mem_of_getElem? (i := 12) (by decide +kernel))) (hs _ (List.mem_of_getElem? (i := 13) (by decide +kernel))) (fun j hj => hs _ (List.mem_of_getElem? (i := 14 + j) ((show ∀ j, j < 100 → (flatC (Jvm.Cond.and given_1 narrow_1))[14 + j]? = some (Cond.eq (.elem (.static "java/lang/Integer" "DigitOnes" "[B") (.int (Int32.ofNat j))) (.int (nI (48 + j % 10)))) by decide +kernel) j hj)))
  obtain ⟨q2, f2, e1, e2, e3, e4⟩ := en_dig (nm := "DigitTens") (f := fun j => nI (48 + j / 10)) hc0 hv (hts _ (mv_at 561 (by decide +kernel))) (hts _ (mv_at 24 (by decide +kernel))) (hs _ (List.mem_of_getElem? (i := 115) (by decide +kernel))) (hs _ (List.mem_of_getElem? (i := 116) (by decide +kernel))) (fun j hj => hs _ (List.mem_of_getElem? (i := 117 + j) ((show ∀ j, j < 100 → (flatC (Jvm.Cond.and given_1 narrow_1))[117 + j]? = some (Cond.eq (.elem (.static "java/lang/Integer" "DigitTens" "[B") (.int (Int32.ofNat j))) (.int (nI (48 + j / 10)))) by decide +kernel) j hj)))
  have en : mv_env (en_G s D ts) (s.heap.size, 0, v) := ⟨l0, en_wf hv, Nat.le_refl _⟩
  obtain ⟨z0, a0⟩ := l1
  obtain ⟨z1, a1⟩ := l2
  obtain ⟨z2, a2⟩ := l3
  obtain ⟨z3, a3⟩ := l4
  exact ⟨⟨en, ⟨z0, z1, z2, z3, a0, a1, a2, a3⟩, l5, l6⟩, ⟨en, ⟨z0, z1, z2, z3, a0, a1, a2, a3⟩, l7, l8, l9, l10⟩, ⟨l11, l12, q1, q2, f1, f2, d1, e1, ⟨d2, e2⟩, d3, e3, d4, e4⟩, l13⟩
end EE
