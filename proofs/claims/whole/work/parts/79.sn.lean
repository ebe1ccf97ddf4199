theorem prs_m {D : dS} {x y : Nat} : ∀ {ks : List Nat} {i : Nat} {q : Nat × Nat}, q ∈ prs D x y ks i → q.1 ∈ ks ∧ ∃ k, q.2 = (ansF D x q.1 k y).getD q.1
  | [], i, q, h => (nomatch h)
  | c :: r, i, q, h => by
    rw [prs] at h
    rcases List.mem_append.mp h with z | z
    · have := prs_m z
      exact ⟨by simp [this.1], this.2⟩
    · rw [List.mem_singleton.mp z]
      exact ⟨by simp, i, rfl⟩
theorem stS_p {D : dS} {rec : Nat → Nat → Bool} {x y : Nat} : ∀ {ks : List Nat} {i : Nat}, stS D rec x y ks i = (allS D x y ks i && (prs D x y ks i).all (fun q => rec q.1 q.2))
  | [], i => rfl
  | c :: r, i => by
    rw [stS, allS, prs, List.all_append, stS_p]
    cases ansF D x c i y with
    | none => rfl
    | some d =>
      simp only [Option.isSome_some, Bool.true_and, List.all_cons, List.all_nil, Bool.and_true, Option.getD_some]
      cases rec c d <;> cases allS D x y r (i + 1) <;> cases (prs D x y r (i + 1)).all (fun q => rec q.1 q.2) <;> rfl
theorem prs_l {D : dS} {x y : Nat} : ∀ {ks : List Nat} {i : Nat}, (prs D x y ks i).length = ks.length
  | [], i => rfl
  | c :: r, i => by rw [prs, List.length_append, prs_l]; rfl
/-- pairs on the pile: their first nodes go down -/
def dcP (D : dS) (l : List (Nat × Nat)) : Prop := (l.map Prod.fst).Pairwise (fun a b => b < a) ∧ ∀ q, q ∈ l → q.1 < D.1
theorem dc_len : ∀ {l : List Nat} {m : Nat}, l.Pairwise (fun a b => b < a) → (∀ x, x ∈ l → x < m) → l.length ≤ m
  | [], m, _, _ => Nat.zero_le _
  | a :: r, m, h, k => by
    have h2 := List.pairwise_cons.mp h
    have := dc_len (m := a) h2.2 (fun x hx => h2.1 x hx)
    have := k a (by simp)
    simp; omega
theorem dcP.len {D : dS} {l : List (Nat × Nat)} (h : dcP D l) : l.length ≤ D.1 := by
  have := dc_len h.1 (m := D.1) (fun x hx => by
    obtain ⟨q, hq, rfl⟩ := List.mem_map.mp hx
    exact h.2 q hq)
  rwa [List.length_map] at this
theorem dcP.tl {D : dS} {q : Nat × Nat} {l : List (Nat × Nat)} (h : dcP D (q :: l)) : dcP D l := ⟨(List.pairwise_cons.mp h.1).2, fun x hx => h.2 x (by simp [hx])⟩
theorem dcP_prs {t : List Nat} {g : Nat → Nat} {D : dS} (hI : dI t g D) {x y z : Nat} {st : List (Nat × Nat)} (hx : x < D.1) (h : dcP D ((x, z) :: st)) : ∀ {ks : List Nat} {i : Nat}, ks.Pairwise (· < ·) → (∀ j, j ∈ ks → x < j ∧ j < D.1) → dcP D (prs D x y ks i ++ st)
  | [], i, _, _ => h.tl
  | c :: r, i, hs, hk => by
    have hs2 := List.pairwise_cons.mp hs
    have ih := dcP_prs hI hx (y := y) h (ks := r) (i := i + 1) hs2.2 (fun j hj => hk j (by simp [hj]))
    have hc := hk c (by simp)
    have hst := (List.pairwise_cons.mp h.1).1
    rw [prs, List.append_assoc]
    refine ⟨?_, fun q hq => ?_⟩
    · rw [List.map_append]
      have i1 := ih.1
      rw [List.map_append] at i1
      have i2 := List.pairwise_append.mp i1
      refine List.pairwise_append.mpr ⟨i2.1, ?_, fun a ha b hb => ?_⟩
      · refine List.pairwise_cons.mpr ⟨fun b hb => ?_, i2.2.1⟩
        have := hst b hb
        show b < c
        have : b < x := this
        omega
      · rcases List.mem_cons.mp hb with e | hb
        · rw [e]
          obtain ⟨q, hq, rfl⟩ := List.mem_map.mp ha
          exact hs2.1 q.1 (prs_m hq).1
        · exact i2.2.2 a ha b hb
    · rcases List.mem_append.mp hq with z | z
      · exact ih.2 q (by simp [z])
      · rcases List.mem_append.mp z with w | w
        · rw [List.mem_singleton.mp w]; exact hc.2
        · exact ih.2 q (by simp [w])
/-- how long it may take -/
def kB : Nat → Nat
  | 0 => 5
  | f + 1 => 100 + 41 * kB f
theorem e_iaP0 {t : List Nat} {D : dS} (hW : dW t D) {g : Nat → Nat} (hI : dI t g D) : ∀ (f x y : Nat), x < D.1 → y < D.1 → 7 ≤ g x + f → ∃ k, k ≤ kB f ∧ ∀ (tq : List Nat) (Q : cQ) (N : Nat) (st : List (Nat × Nat)) (S : md_S), 161 ≤ N → rSt t D tq Q S → rPr S ((x, y) :: st) → dcP D ((x, y) :: st) →
    (stA D f x y = true → ∃ S', (∀ n, iaL N (n + k) 0 (nI (st.length + 1)) 1 0 0 0 0 S = iaL N n 0 (nI st.length) 1 0 0 0 0 S') ∧ rPr S' st ∧ rF [80, 81] S S') ∧
    (stA D f x y = false → ∃ S', (∀ n, iaL N (n + k) 0 (nI (st.length + 1)) 1 0 0 0 0 S = some (0, S')) ∧ rF [80, 81] S S') := by
  have h40 := hI.1.1
  intro f
  induction f with
  | zero =>
    intro x y hx hy hg
    have := hI.1.2 x hx
    omega
  | succ f ih =>
    intro x y hx hy hg
    have kin : ∀ j, j ∈ nki (D.2 x) → j < D.1 ∧ g j = g x + 1 := fun j hj => by
      rw [hI.2.2.1 x hx] at hj
      have := kF_m.mp hj
      exact ⟨this.1, (hI.2.1 j this.1 x this.2).2.2⟩
    have hlen := kids_len hI hx
    -- a pile of pairs, one by one
    have pile : ∀ (ps : List (Nat × Nat)), (∀ q, q ∈ ps → q.1 < D.1 ∧ q.2 < D.1 ∧ 7 ≤ g q.1 + f) → ∃ k, k ≤ ps.length * kB f ∧ ∀ (tq : List Nat) (Q : cQ) (N : Nat) (st : List (Nat × Nat)) (S : md_S), 161 ≤ N → rSt t D tq Q S → rPr S (ps ++ st) → dcP D (ps ++ st) →
        (ps.all (fun q => stA D f q.1 q.2) = true → ∃ S', (∀ n, iaL N (n + k) 0 (nI (ps ++ st).length) 1 0 0 0 0 S = iaL N n 0 (nI st.length) 1 0 0 0 0 S') ∧ rPr S' st ∧ rF [80, 81] S S') ∧
        (ps.all (fun q => stA D f q.1 q.2) = false → ∃ S', (∀ n, iaL N (n + k) 0 (nI (ps ++ st).length) 1 0 0 0 0 S = some (0, S')) ∧ rF [80, 81] S S') := by
      intro ps
      induction ps with
      | nil =>
        intro _
        refine ⟨0, Nat.zero_le _, fun tq Q N st S hN hS hp hl => ⟨fun _ => ⟨S, fun n => rfl, hp, rF.rf⟩, fun z => (nomatch z)⟩⟩
      | cons q r ihp =>
        intro hq
        obtain ⟨q1, q2, q3⟩ := hq q (by simp)
        obtain ⟨k1, l1, e1⟩ := ih q.1 q.2 q1 q2 q3
        obtain ⟨k2, l2, e2⟩ := ihp (fun z hz => hq z (by simp [hz]))
        refine ⟨k2 + k1, ?_, fun tq Q N st S hN hS hp hl => ?_⟩
        · rw [List.length_cons, Nat.add_mul]; omega
        · obtain ⟨a1, a2⟩ := e1 tq Q N (r ++ st) S hN hS hp hl
          rw [List.all_cons]
          refine ⟨fun hA => ?_, fun hA => ?_⟩
          · have hA' : stA D f q.1 q.2 = true ∧ r.all (fun q => stA D f q.1 q.2) = true := by simpa using hA
            obtain ⟨S1, b1, b2, b3⟩ := a1 hA'.1
            obtain ⟨S2, c1, c2, c3⟩ := (e2 tq Q N st S1 hN (hS.f b3 (fun k z => by simp at z; omega)) b2 hl.tl).1 hA'.2
            refine ⟨S2, fun n => ?_, c2, b3.tr c3 (fun _ z => z) (fun _ z => z)⟩
            rw [← Nat.add_assoc]
            exact (b1 (n + k2)).trans (c1 n)
          · by_cases h1 : stA D f q.1 q.2 = true
            · have h2 : r.all (fun q => stA D f q.1 q.2) = false := by
                rw [h1, Bool.true_and] at hA; exact hA
              obtain ⟨S1, b1, b2, b3⟩ := a1 h1
              obtain ⟨S2, c1, c3⟩ := (e2 tq Q N st S1 hN (hS.f b3 (fun k z => by simp at z; omega)) b2 hl.tl).2 h2
              refine ⟨S2, fun n => ?_, b3.tr c3 (fun _ z => z) (fun _ z => z)⟩
              rw [← Nat.add_assoc]
              exact (b1 (n + k2)).trans (c1 n)
            · obtain ⟨S1, b1, b3⟩ := a2 (by simpa using h1)
              refine ⟨S1, fun n => ?_, b3⟩
              rw [← Nat.add_assoc]
              exact b1 (n + k2)
    have hprs : ∀ q, q ∈ prs D x y (nki (D.2 x)) 0 → q.1 < D.1 ∧ q.2 < D.1 ∧ 7 ≤ g q.1 + f := fun q hq => by
      obtain ⟨m1, k, m2⟩ := prs_m hq
      have := kin q.1 m1
      refine ⟨this.1, ?_, by rw [this.2]; omega⟩
      rw [m2]
      cases ha : ansF D x q.1 k y with
      | none => exact this.1
      | some d => exact ansF_lt hI hy ha
    obtain ⟨k2, l2, e2⟩ := pile (prs D x y (nki (D.2 x)) 0) hprs
    rw [prs_l] at l2
    refine ⟨if lfA D x y && ((nki (D.2 x)).length == (nki (D.2 y)).length) then (if allS D x y (nki (D.2 x)) 0 then k2 + ((nki (D.2 x)).length + 1) + 1 else 1 + ((nki (D.2 x)).length + 1) + 1) else 3, ?_, fun tq Q N st S hN hS hp hl => ?_⟩
    · have : (nki (D.2 x)).length * kB f ≤ 40 * kB f := Nat.mul_le_mul_right _ hlen
      rw [kB]
      split
      · split <;> omega
      · omega
    · have hk0 := kidsB_0 hI hx
      have hl2 := kids_len hI hy
      have hsl : st.length + 1 ≤ D.1 := hl.len
      -- the top is taken off
      have st1 : ∀ n, iaL N (n + 1) 0 (nI (st.length + 1)) 1 0 0 0 0 S = (if lfA D x y && ((nki (D.2 x)).length == (nki (D.2 y)).length) then iaL N n 1 (nI st.length) 1 (nI x) (nI y) 0 (oI (nki (D.2 x)).head?) S else iaL N n 1 (nI st.length) 0 (nI x) (nI y) 0 (-1) S) := fun n => by
        show mo_isAlike_l19 N (n + 1) 0 _ _ _ _ _ _ S = _
        rw [mo_isAlike_l19, if_pos rfl, if_neg (nI_nle (by omega) (by omega)), if_neg (by decide), pk_m1]
        simp only [if_pos (nI_in (show st.length < 200 by omega) (by omega)), nI_clamp (show st.length < 2 ^ 31 by omega), hp.1.1, hp.1.2]
        rw [e_leafA hN hS hx hy]
        simp only [md_bs, bI_0]
        cases hlf : lfA D x y with
        | false =>
          rw [if_pos rfl, Bool.false_and, if_neg (by decide)]
        | true =>
          rw [if_neg (by decide), e_children hS.1 hx hN]
          simp only [md_bs]
          rw [e_children hS.1 hy hN]
          simp only [md_bs]
          rw [Bool.true_and]
          by_cases e : (nki (D.2 x)).length = (nki (D.2 y)).length
          · rw [if_pos (by rw [e]), hS.kid hx (Nat.le_refl _) (by omega) hN, hk0]
            simp only [md_bs]
            rw [if_pos (beq_iff_eq.mpr e)]
          · rw [if_neg (fun z => e ((nI_eq (by omega) (by omega)).mp z)), if_neg (by rw [beq_eq_false_iff_ne.mpr e]; decide)]
      have hend : ∀ {S1 : md_S} {x3 : Int32} (n : Nat), iaL N (n + 1) 0 x3 0 0 0 0 0 S1 = some (0, S1) := fun {S1 x3} n => by
        show mo_isAlike_l19 N (n + 1) 0 _ _ _ _ _ _ S1 = _
        rw [mo_isAlike_l19, if_pos rfl]
        unfold mo_isAlike_j189
        rw [if_pos (Or.inl rfl), if_pos rfl, ite_self]
      cases hc : (lfA D x y && ((nki (D.2 x)).length == (nki (D.2 y)).length)) with
      | false =>
        rw [hc] at st1
        simp only [if_neg (show ¬ (false = true) by decide)] at st1 ⊢
        have hst : stA D (f + 1) x y = false := by rw [stA, hc, Bool.false_and]
        refine ⟨fun z => (by rw [hst] at z; cases z), fun _ => ⟨S, fun n => ?_, rF.rf⟩⟩
        rw [show n + 3 = (n + 1 + 1) + 1 from rfl, st1]
        show mo_isAlike_l19 N (n + 1 + 1) 1 _ _ _ _ _ _ S = _
        rw [mo_isAlike_l19, if_neg (by decide), if_pos rfl]
        exact hend n
      | true =>
        rw [hc] at st1
        simp only [if_true] at st1 ⊢
        have hst : stA D (f + 1) x y = (allS D x y (nki (D.2 x)) 0 && (prs D x y (nki (D.2 x)) 0).all (fun q => stA D f q.1 q.2)) := by rw [stA, hc, Bool.true_and, stS_p]
        obtain ⟨S1, p1, p2, p3⟩ := e_iaP1 hN hx hy (nki (D.2 x)) 0 true st S hS ⟨x, Nat.le_refl _, by omega, hk0.symm⟩ (by omega) (by omega) hp.2
        rw [Bool.true_and] at p1
        have p1' : ∀ n, iaL N (n + ((nki (D.2 x)).length + 1) + 1) 0 (nI (st.length + 1)) 1 0 0 0 0 S = iaL N n 0 (nI (prs D x y (nki (D.2 x)) 0 ++ st).length) (bI (allS D x y (nki (D.2 x)) 0)) 0 0 0 0 S1 := fun n => (st1 _).trans (p1 n)
        cases ha : allS D x y (nki (D.2 x)) 0 with
        | false =>
          rw [ha] at p1'
          simp only [if_neg (show ¬ (false = true) by decide)]
          refine ⟨fun z => (by rw [hst, ha] at z; cases z), fun _ => ⟨S1, fun n => ?_, p3⟩⟩
          rw [show n + (1 + ((nki (D.2 x)).length + 1) + 1) = (n + 1) + ((nki (D.2 x)).length + 1) + 1 by omega, p1']
          exact hend n
        | true =>
          rw [ha] at p1'
          simp only [if_true]
          rw [ha, Bool.true_and] at hst
          have hln : dcP D (prs D x y (nki (D.2 x)) 0 ++ st) := dcP_prs hI hx hl (by rw [hI.2.2.1 x hx]; exact kF_sorted) (fun j hj => by
            rw [hI.2.2.1 x hx] at hj
            have := kF_m.mp hj
            exact ⟨(hI.2.1 j this.1 x this.2).1, this.1⟩)
          obtain ⟨b1, b2⟩ := e2 tq Q N st S1 hN (hS.f p3 (fun k z => by simp at z; omega)) p2 hln
          refine ⟨fun z => ?_, fun z => ?_⟩
          · obtain ⟨S2, c1, c2, c3⟩ := b1 (hst.symm.trans z)
            refine ⟨S2, fun n => ?_, c2, p3.tr c3 (fun _ z => z) (fun _ z => z)⟩
            rw [show n + (k2 + ((nki (D.2 x)).length + 1) + 1) = (n + k2) + ((nki (D.2 x)).length + 1) + 1 by omega, p1']
            exact c1 n
          · obtain ⟨S2, c1, c3⟩ := b2 (hst.symm.trans z)
            refine ⟨S2, fun n => ?_, p3.tr c3 (fun _ z => z) (fun _ z => z)⟩
            rw [show n + (k2 + ((nki (D.2 x)).length + 1) + 1) = (n + k2) + ((nki (D.2 x)).length + 1) + 1 by omega, p1']
            exact c1 n
/-! the same as going down side by side -/
theorem lfA_rf {D : dS} {i : Nat} : lfA D i i = true := by
  unfold lfA
  simp
theorem stA_rf {t : List Nat} {g : Nat → Nat} {D : dS} (hI : dI t g D) : ∀ (f i : Nat), i < D.1 → 7 ≤ g i + f → stA D f i i = true := by
  intro f
  induction f with
  | zero => intro i hi hg; have := hI.1.2 i hi; omega
  | succ f ih =>
    intro i hi hg
    rw [stA, lfA_rf, beq_self_eq_true, Bool.true_and, Bool.true_and]
    have hm : ∀ j, j ∈ nki (D.2 i) → j < D.1 ∧ nou (D.2 j) = some i := fun j hj => by rw [hI.2.2.1 i hi] at hj; exact kF_m.mp hj
    have key : ∀ (ks : List Nat) (k : Nat), (∀ q, ks[q]? = (nki (D.2 i))[k + q]?) → (∀ j, j ∈ ks → j ∈ nki (D.2 i)) → stS D (stA D f) i i ks k = true := by
      intro ks
      induction ks with
      | nil => intro k _ _; rfl
      | cons c r ihk =>
        intro k hq hj
        have hc := hm c (hj c (by simp))
        have ha : ansF D i c k i = some c := by
          unfold ansF
          split
          · have := hq 0
            rw [Nat.add_zero] at this
            rw [← this]; rfl
          next h5 =>
            have h6 : nkd (D.2 i) = 6 := ((hI.2.1 c hc.1 i hc.2).2.1).resolve_left h5
            unfold kidN
            cases hfd : (nki (D.2 i)).find? (fun j => nnm (D.2 j) == nnm (D.2 c)) with
            | none =>
              exfalso
              have := List.find?_eq_none.mp hfd c (hj c (by simp))
              simp at this
            | some d =>
              have h1 := hm d (List.mem_of_find?_eq_some hfd)
              have h2 : nnm (D.2 d) = nnm (D.2 c) := by simpa using List.find?_some hfd
              rw [hI.2.2.2.2.2.2.1 d c i h1.1 hc.1 h1.2 hc.2 h6 h2]
        rw [stS, ha]
        simp only
        rw [ih c hc.1 (by rw [(hI.2.1 c hc.1 i hc.2).2.2]; omega), Bool.true_and]
        refine ihk (k + 1) (fun q => ?_) (fun j hj2 => hj j (by simp [hj2]))
        have := hq (q + 1)
        rw [List.getElem?_cons_succ] at this
        rw [this]
        congr 1
        omega
    exact key _ 0 (fun q => by rw [Nat.zero_add]) (fun j hj => hj)
theorem alk_st {t : List Nat} {g : Nat → Nat} {D : dS} (hI : dI t g D) : ∀ (f i j : Nat), i < D.1 → j < D.1 → 7 ≤ g i + f → alk D f i j = stA D f i j := by
  intro f
  induction f with
  | zero => intro i j hi hj hg; have := hI.1.2 i hi; omega
  | succ f ih =>
    intro i j hi hj hg
    by_cases e : i = j
    · subst e
      rw [stA_rf hI (f + 1) i hi hg, alk]
      simp
    · have noK : ∀ {n : Nat}, n < D.1 → ¬ isB (nkd (D.2 n)) → nki (D.2 n) = [] := fun {n} hn hb => by
        rw [hI.2.2.1 n hn]
        refine List.eq_nil_iff_forall_not_mem.mpr fun k hk => hb ?_
        have := kF_m.mp hk
        exact (hI.2.1 k this.1 n this.2).2.1
      have hm : ∀ k, k ∈ nki (D.2 i) → k < D.1 ∧ g k = g i + 1 := fun k hk => by
        rw [hI.2.2.1 i hi] at hk
        have := kF_m.mp hk
        exact ⟨this.1, (hI.2.1 k this.1 i this.2).2.2⟩
      have hS : ∀ (ks : List Nat) (k : Nat), (∀ c, c ∈ ks → c < D.1 ∧ g c = g i + 1) → alkS D (alk D f) i j ks k = stS D (stA D f) i j ks k := by
        intro ks
        induction ks with
        | nil => intro k _; rfl
        | cons c r ihk =>
          intro k hc
          rw [alkS, stS, ihk (k + 1) (fun q hq => hc q (by simp [hq]))]
          have ha : (if nkd (D.2 i) = 5 then (nki (D.2 j))[k]? else kidN D j (nnm (D.2 c))) = ansF D i c k j := rfl
          rw [ha]
          congr 1
          cases hq : ansF D i c k j with
          | none => rfl
          | some d =>
            have := hc c (by simp)
            exact ih c d this.1 (ansF_lt hI hj hq) (by rw [this.2]; omega)
      rw [alk, stA]
      have hij : (i == j) = false := beq_eq_false_iff_ne.mpr e
      rw [hij, Bool.false_or]
      unfold lfA
      by_cases ek : nkd (D.2 i) = nkd (D.2 j)
      · rw [beq_iff_eq.mpr ek, Bool.true_and, Bool.true_and]
        by_cases e3 : nkd (D.2 i) = 3
        · have n1 := noK hi (by rw [e3]; unfold isB; decide)
          have n2 := noK hj (by rw [← ek, e3]; unfold isB; decide)
          rw [if_pos e3, if_pos e3, n1, n2]
          simp [stS]
        · rw [if_neg e3, if_neg e3]
          by_cases e4 : nkd (D.2 i) = 4
          · have n1 := noK hi (by rw [e4]; unfold isB; decide)
            have n2 := noK hj (by rw [← ek, e4]; unfold isB; decide)
            rw [if_pos e4, if_pos e4, n1, n2]
            simp [stS]
          · rw [if_neg e4, if_neg e4, Bool.true_and]
            by_cases eb : nkd (D.2 i) = 5 ∨ nkd (D.2 i) = 6
            · rw [if_pos eb, hS _ 0 hm, hI.2.2.2.1 i hi ⟨e3, e4⟩, hI.2.2.2.1 j hj ⟨by rw [← ek]; exact e3, by rw [← ek]; exact e4⟩]
              have l1 := kids_len hI hi
              have l2 := kids_len hI hj
              congr 1
              by_cases el : (nki (D.2 i)).length = (nki (D.2 j)).length
              · rw [el]; simp
              · rw [beq_eq_false_iff_ne.mpr el, beq_eq_false_iff_ne.mpr (fun z => el ((nI_eq (by omega) (by omega)).mp z))]
            · have n1 := noK hi eb
              have n2 := noK hj (by rw [← ek]; exact eb)
              rw [if_neg eb, n1, n2]
              simp [stS]
      · rw [beq_eq_false_iff_ne.mpr ek]
        rfl
theorem e_isAlike {t : List Nat} {D : dS} {tq : List Nat} {Q : cQ} {S : md_S} {i j N : Nat} (hN : 3000 + kB 7 ≤ N) (hS : rSt t D tq Q S) (hi : i < D.1) (hj : j < D.1) : ∃ S', mo_isAlike N (nI i) (nI j) S = some (bI (alk D 7 i j), S') ∧ rF [80, 81] S S' := by
  obtain ⟨g, hI⟩ := hS.1.1.1
  unfold mo_isAlike
  simp only [if_pos (show md_in 0 200 by decide), md_lx, show (0 : Int32).toNatClampNeg = 0 from rfl]
  obtain ⟨S1, hS1⟩ : ∃ S1, S1 = md_w (md_w S 80 0 (nI i)) 81 0 (nI j) := ⟨_, rfl⟩
  rw [← hS1]
  have f1 : rF [80, 81] S S1 := by rw [hS1]; exact (rF.rf.w (by decide)).w (by decide)
  have hp : rPr S1 [(i, j)] := ⟨⟨by rw [hS1, md_w_k (by decide)]; exact md_w_s, by rw [hS1]; exact md_w_s⟩, trivial⟩
  obtain ⟨k, k1, k2⟩ := e_iaP0 hS.1.1 hI 7 i j hi hj (by omega)
  obtain ⟨a1, a2⟩ := k2 tq Q N [] S1 (by omega) (hS.f f1 (fun k z => by simp at z; omega)) hp ⟨by simp, fun q hq => by rw [List.mem_singleton.mp hq]; exact hi⟩
  rw [alk_st hI 7 i j hi hj (by omega)]
  cases h : stA D 7 i j with
  | true =>
    obtain ⟨S2, b1, b2, b3⟩ := a1 h
    refine ⟨S2, ?_, f1.tr b3 (fun _ z => z) (fun _ z => z)⟩
    have := b1 (N - k - 1 + 1)
    rw [show N - k - 1 + 1 + k = N by omega] at this
    refine Eq.trans this ?_
    show mo_isAlike_l19 N (N - k - 1 + 1) 0 _ _ _ _ _ _ S2 = _
    rw [mo_isAlike_l19, if_pos rfl, if_pos (by decide)]
    unfold mo_isAlike_j189
    rw [if_pos (Or.inr rfl)]
    rfl
  | false =>
    obtain ⟨S2, b1, b3⟩ := a2 h
    refine ⟨S2, ?_, f1.tr b3 (fun _ z => z) (fun _ z => z)⟩
    have := b1 (N - k)
    rw [show N - k + k = N by omega] at this
    exact this
