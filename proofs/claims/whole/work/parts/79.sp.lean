/-! comparing two values of the pile -/
def eqW (D : dS) (x y : vQ) : Bool := vkd D x == vkd D y && (if vkd D x = 3 then vsz D x == vsz D y else if vkd D x = 4 then vtx D x == vtx D y else true)
theorem eqV_w {D : dS} {x y : vQ} (h : ¬ isB (vkd D x)) : eqV D (some x) (some y) = eqW D x y := by
  cases x with
  | inr q => cases y <;> rfl
  | inl i =>
    cases y with
    | inr q => rfl
    | inl j =>
      have h' : ¬ (nkd (D.2 i) = 5 ∨ nkd (D.2 i) = 6) := h
      show alk D 7 i j = (nkd (D.2 i) == nkd (D.2 j) && (if nkd (D.2 i) = 3 then nsz (D.2 i) == nsz (D.2 j) else if nkd (D.2 i) = 4 then ntx (D.2 i) == ntx (D.2 j) else true))
      rw [alk, if_neg h']
      by_cases e : i = j
      · subst e
        simp
      · rw [beq_eq_false_iff_ne.mpr e, Bool.false_or]
theorem eqV_kd {D : dS} {x y : vQ} (h : vkd D x ≠ vkd D y) : eqV D (some x) (some y) = false := by
  cases x with
  | inr q =>
    cases y with
    | inl j => show (vkd D (.inr q) == vkd D (.inl j) && _) = false; rw [beq_eq_false_iff_ne.mpr h]; rfl
    | inr w => show (vkd D (.inr q) == vkd D (.inr w) && _) = false; rw [beq_eq_false_iff_ne.mpr h]; rfl
  | inl i =>
    cases y with
    | inr q => show (vkd D (.inl i) == vkd D (.inr q) && _) = false; rw [beq_eq_false_iff_ne.mpr h]; rfl
    | inl j =>
      show alk D 7 i j = false
      have hk : nkd (D.2 i) ≠ nkd (D.2 j) := h
      rw [alk, beq_eq_false_iff_ne.mpr hk, beq_eq_false_iff_ne.mpr (fun z => hk (by rw [z]))]
      rfl
theorem rVl.b {t tq : List Nat} {D : dS} {x : vQ} {k a b : Int32} (h : rVl t tq D (some x) k a b) (hb : isB k) : ∃ n, x = .inl n ∧ n < D.1 ∧ a = nI n := by
  cases x with
  | inl n => exact ⟨n, rfl, h.1, h.2.2.2.2 hb⟩
  | inr q =>
    exfalso
    have := h.2.2.2
    rcases hb with z | z <;> rw [z] at this <;> exact absurd this (by decide)
theorem e_isEqual {t : List Nat} {D : dS} {tq : List Nat} {Q : cQ} {S : md_S} {i j N : Nat} {x y : Option vQ} (hN : 3000 + kB 7 ≤ N) (hS : rSt t D tq Q S) (hi : i < 100) (hj : j < 100) (hx : rVl t tq D x (S.2 77 i) (S.2 78 i) (S.2 79 i)) (hy : rVl t tq D y (S.2 77 j) (S.2 78 j) (S.2 79 j)) : ∃ S', mo_isEqual N (nI i) (nI j) S = some (bI (eqV D x y), S') ∧ rF [80, 81] S S' := by
  obtain ⟨g, hI⟩ := hS.1.1.1
  unfold mo_isEqual mo_isEqual_j98 mo_isEqual_j117 mo_isEqual_j122 mo_isEqual_j86 mo_isEqual_j44
  simp only [if_pos (nI_in hi (by omega)), nI_clamp (show i < 2 ^ 31 by omega), if_pos (nI_in hj (by omega)), nI_clamp (show j < 2 ^ 31 by omega), if_pos (show md_bo 1 from Or.inr rfl), if_pos (show md_bo 0 from Or.inl rfl)]
  have stay : ∀ {v w : Int32}, v = w → ∃ S', some (v, S) = some (w, S') ∧ rF [80, 81] S S' := fun {v w} e => ⟨S, by rw [e], rF.rf⟩
  have i67 : ∀ {c : Prop} {z : Decidable c}, (if c then some ((1 : Int32), S) else some (0, S)) = some ((if c then (1 : Int32) else 0), S) := fun {c z} => by split <;> rfl
  cases x with
  | none =>
    have e7 : S.2 77 i = 7 := hx
    rw [e7]
    cases y with
    | none =>
      have e7' : S.2 77 j = 7 := hy
      rw [e7', if_pos rfl, if_neg (by decide), if_neg (by decide), if_neg (by decide), if_neg (by decide)]
      exact stay rfl
    | some y =>
      rw [if_neg (fun z => hy.n7 hI z.symm)]
      exact stay rfl
  | some x =>
    cases y with
    | none =>
      have e7' : S.2 77 j = 7 := hy
      rw [e7', if_neg (hx.n7 hI)]
      exact stay (by cases x <;> rfl)
    | some y =>
      by_cases ek : S.2 77 i = S.2 77 j
      · rw [if_pos ek]
        have ek' : vkd D x = vkd D y := by rw [← hx.kd, ← hy.kd]; exact ek
        have ekb : (vkd D x == vkd D y) = true := by rw [ek']; simp
        by_cases e3 : S.2 77 i = 3
        · rw [if_pos e3, i67]
          refine stay ?_
          have e3' : vkd D x = 3 := by rw [← hx.kd]; exact e3
          rw [eqV_w (by rw [e3']; unfold isB; decide), eqW, ekb, Bool.true_and, if_pos e3', hx.sz e3, hy.sz (ek.symm.trans e3)]
          unfold bI
          simp
        · rw [if_neg e3]
          have e3' : ¬ vkd D x = 3 := by rw [← hx.kd]; exact e3
          by_cases e4 : S.2 77 i = 4
          · rw [if_pos e4]
            have e4' : vkd D x = 4 := by rw [← hx.kd]; exact e4
            obtain ⟨v, o1, o2, o3⟩ := e_order (show 161 ≤ N by omega) hS (hx.tx e4) (hy.tx (ek.symm.trans e4))
            rw [o1]
            simp only [md_bs, i67]
            refine stay ?_
            rw [eqV_w (by rw [e4']; unfold isB; decide), eqW, ekb, Bool.true_and, if_neg e3', if_pos e4']
            unfold bI
            simp [o2]
          · rw [if_neg e4]
            have e4' : ¬ vkd D x = 4 := by rw [← hx.kd]; exact e4
            by_cases hb : isB (S.2 77 i)
            · obtain ⟨n, rfl, n1, n2⟩ := hx.b hb
              obtain ⟨m, rfl, m1, m2⟩ := hy.b (by rw [← ek]; exact hb)
              have hj : ∀ {α : Type} {p q : α}, (if S.2 77 i = 5 then p else if S.2 77 i = 6 then p else q) = p := fun {α p q} => by
                rcases hb with z | z
                · rw [if_pos z]
                · rw [if_pos z, ite_self]
              rw [hj, n2, m2]
              obtain ⟨S1, s1, s2⟩ := e_isAlike hN hS n1 m1
              rw [s1]
              simp only [md_bs]
              refine ⟨S1, ?_, s2⟩
              show _ = some (bI (alk D 7 n m), S1)
              cases alk D 7 n m <;> rfl
            · rw [if_neg (fun z => hb (Or.inl z)), if_neg (fun z => hb (Or.inr z))]
              refine stay ?_
              rw [eqV_w (by rw [← hx.kd]; exact hb), eqW, ekb, Bool.true_and, if_neg e3', if_neg e4']
              rfl
      · rw [if_neg ek]
        refine stay ?_
        rw [eqV_kd (by rw [← hx.kd, ← hy.kd]; exact ek)]
        rfl
theorem e_isLess {t : List Nat} {D : dS} {tq : List Nat} {Q : cQ} {S : md_S} {i j N : Nat} {x y : Option vQ} (hN : 161 ≤ N) (hS : rSt t D tq Q S) (hi : i < 100) (hj : j < 100) (hx : rVl t tq D x (S.2 77 i) (S.2 78 i) (S.2 79 i)) (hy : rVl t tq D y (S.2 77 j) (S.2 78 j) (S.2 79 j)) : mo_isLess N (nI i) (nI j) S = some (bI (lesV D x y), S) := by
  obtain ⟨g, hI⟩ := hS.1.1.1
  unfold mo_isLess mo_isLess_j87 mo_isLess_j88
  simp only [if_pos (nI_in hi (by omega)), nI_clamp (show i < 2 ^ 31 by omega), if_pos (nI_in hj (by omega)), nI_clamp (show j < 2 ^ 31 by omega), if_pos (show md_bo 1 from Or.inr rfl), if_pos (show md_bo 0 from Or.inl rfl)]
  cases x with
  | none =>
    have e7 : S.2 77 i = 7 := hx
    rw [e7, if_neg (show ¬ (7 : Int32) = 3 by decide), if_neg (show ¬ (7 : Int32) = 4 by decide), ite_self]
    cases y <;> rfl
  | some x =>
    cases y with
    | none =>
      have e7' : S.2 77 j = 7 := hy
      rw [e7', if_neg (hx.n7 hI)]
      cases x <;> rfl
    | some y =>
      by_cases ek : S.2 77 i = S.2 77 j
      · rw [if_pos ek]
        have ek' : vkd D x = vkd D y := by rw [← hx.kd, ← hy.kd]; exact ek
        have hl : lesV D (some x) (some y) = (if vkd D x = 3 then decide (vsz D x < vsz D y) else decide (vkd D x = 4) && lexL (vtx D x) (vtx D y)) := by
          show (vkd D x == vkd D y && _) = _
          rw [ek', beq_self_eq_true, Bool.true_and]
        rw [hl]
        by_cases e3 : S.2 77 i = 3
        · rw [if_pos e3, hx.sz e3, hy.sz (ek.symm.trans e3)]
          have e3' : vkd D x = 3 := by rw [← hx.kd]; exact e3
          rw [if_pos e3']
          by_cases c : vsz D y ≤ vsz D x
          · rw [if_pos c]
            have : ¬ vsz D x < vsz D y := Int32.not_lt.mpr c
            simp [bI, this]
          · rw [if_neg c]
            have : vsz D x < vsz D y := Int32.not_le.mp c
            simp [bI, this]
        · rw [if_neg e3]
          have e3' : ¬ vkd D x = 3 := by rw [← hx.kd]; exact e3
          rw [if_neg e3']
          by_cases e4 : S.2 77 i = 4
          · rw [if_pos e4]
            have e4' : vkd D x = 4 := by rw [← hx.kd]; exact e4
            obtain ⟨v, o1, o2, o3⟩ := e_order hN hS (hx.tx e4) (hy.tx (ek.symm.trans e4))
            rw [o1]
            simp only [md_bs]
            rw [decide_eq_true e4', Bool.true_and]
            by_cases c : (0 : Int32) ≤ v
            · rw [if_pos c]
              have h1 : ¬ v < 0 := Int32.not_lt.mpr c
              have h2 : lexL (vtx D x) (vtx D y) = false := by
                cases hh : lexL (vtx D x) (vtx D y) with
                | false => rfl
                | true => exact absurd (o3.mpr hh) h1
              rw [h2]; rfl
            · rw [if_neg c, o3.mp (Int32.not_le.mp c)]; rfl
          · rw [if_neg e4]
            have e4' : ¬ vkd D x = 4 := by rw [← hx.kd]; exact e4
            rw [decide_eq_false e4', Bool.false_and]
            rfl
      · rw [if_neg ek]
        show _ = some (bI (vkd D x == vkd D y && _), S)
        rw [beq_eq_false_iff_ne.mpr (by rw [← hx.kd, ← hy.kd]; exact ek)]
        rfl
theorem e_compare {t : List Nat} {D : dS} {tq : List Nat} {Q : cQ} {S : md_S} {N r : Nat} {x y : Option vQ} {vs : stk} (hN : 3000 + kB 7 ≤ N) (hr : r < 6) (hS : rSt t D tq Q S) (h : rVs t tq D (y :: x :: vs) S) : ∃ S', mo_compare N (nI r) S = some S' ∧ rVs t tq D (tru (cmpV D r x y) :: vs) S' ∧ rF [76, 77, 78, 79, 80, 81] S S' := by
  have hl := h.2.1
  simp at hl
  have e76 : S.1 76 - 2 = nI vs.length := by
    rw [h.1]
    show nI (vs.length + 2) - 2 = _
    rw [← nI_1, ← nI_1, Int32.sub_eq_add_neg, Int32.add_assoc, Int32.add_assoc]
    rw [show (1 : Int32) + (1 + -2) = 0 from rfl, Int32.add_zero]
  unfold mo_compare
  simp only [md_lx, e76]
  obtain ⟨S7, hS7⟩ : ∃ S7, S7 = md_p S 76 (nI vs.length) := ⟨_, rfl⟩
  rw [← hS7]
  have f7 : rF [76, 77, 78, 79, 80, 81] S S7 := by rw [hS7]; exact rF.rf.p (by decide)
  have g76 : S7.1 76 = nI vs.length := by rw [hS7, md_p1, if_pos rfl]
  have hSt7 := hS.f f7 (fun k z => by simp at z; omega)
  have a2 : ∀ k, S7.2 k = S.2 k := fun k => by rw [hS7]; rfl
  have hy : rVl t tq D y (S7.2 77 (vs.length + 1)) (S7.2 78 (vs.length + 1)) (S7.2 79 (vs.length + 1)) := by rw [a2, a2, a2]; exact h.2.2.1
  have hx : rVl t tq D x (S7.2 77 vs.length) (S7.2 78 vs.length) (S7.2 79 vs.length) := by rw [a2, a2, a2]; exact h.2.2.2.1
  have hv : rVs t tq D vs S7 := ⟨g76, by omega, rVa.u (S := S) (j := vs.length) (fun i _ => by rw [a2, a2, a2]; exact ⟨rfl, rfl, rfl⟩) (Nat.le_refl _) h.2.2.2.2⟩
  rw [g76, nI_1]
  obtain ⟨S1, q1, q2⟩ := e_isEqual hN hSt7 (show vs.length < 100 by omega) (show vs.length + 1 < 100 by omega) hx hy
  rw [q1]
  simp only [md_bs]
  have hS1 := hSt7.f q2 (fun k z => by simp at z; omega)
  have hx1 : rVl t tq D x (S1.2 77 vs.length) (S1.2 78 vs.length) (S1.2 79 vs.length) := by rw [(q2 77 (by decide)).2, (q2 78 (by decide)).2, (q2 79 (by decide)).2]; exact hx
  have hy1 : rVl t tq D y (S1.2 77 (vs.length + 1)) (S1.2 78 (vs.length + 1)) (S1.2 79 (vs.length + 1)) := by rw [(q2 77 (by decide)).2, (q2 78 (by decide)).2, (q2 79 (by decide)).2]; exact hy
  have l1 := e_isLess (show 161 ≤ N by omega) hS1 (show vs.length < 100 by omega) (show vs.length + 1 < 100 by omega) hx1 hy1
  have l2 := e_isLess (show 161 ≤ N by omega) hS1 (show vs.length + 1 < 100 by omega) (show vs.length < 100 by omega) hy1 hx1
  have hv1 := hv.f q2 (fun k z => by simp at z; omega)
  have fin : ∀ (b : Bool), ∃ S', mo_compare_j113 N (bI b) S1 = some S' ∧ rVs t tq D (tru b :: vs) S' ∧ rF [76, 77, 78, 79, 80, 81] S S' := fun b => by
    obtain ⟨S2, p1, p2, p3⟩ := e_value hv1 (show vs.length < 100 by omega) (rVl_tru (t := t) (tq := tq) (D := D) (b := b) (x := 0) (y := 0))
    refine ⟨S2, ?_, p2, (f7.tr q2 (fun _ z => z) (fun _ z => by simp at z ⊢; omega)).tr p3 (fun _ z => z) (fun _ z => by simp at z ⊢; omega)⟩
    unfold mo_compare_j113 mo_compare_j126
    simp only [md_ci]
    rw [← p1]
    cases b <;> rfl
  unfold mo_compare_j108 mo_compare_j112 mo_compare_j81 mo_compare_j85
  rw [l1, l2]
  simp only [md_bs]
  match r, hr with
  | 0, _ => rw [if_pos (show nI 0 = 0 from rfl)]; exact fin _
  | 1, _ =>
    rw [if_neg (by decide), if_pos (show nI 1 = 1 from rfl)]
    have := fin (!eqV D x y)
    show ∃ S', _ ∧ rVs t tq D (tru (!eqV D x y) :: vs) S' ∧ _
    cases hh : eqV D x y <;> rw [hh] at this <;> exact this
  | 2, _ =>
    rw [if_neg (by decide), if_neg (by decide), if_neg (by decide), if_neg (show ¬ nI 2 = 3 by decide)]
    have := fin (lesV D x y)
    show ∃ S', _ ∧ rVs t tq D (tru (lesV D x y) :: vs) S' ∧ _
    cases hh : lesV D x y <;> rw [hh] at this <;> exact this
  | 3, _ =>
    rw [if_neg (by decide), if_neg (by decide), if_neg (by decide), if_pos (show nI 3 = 3 from rfl)]
    have := fin (lesV D x y || eqV D x y)
    show ∃ S', _ ∧ rVs t tq D (tru (lesV D x y || eqV D x y) :: vs) S' ∧ _
    cases hh : lesV D x y <;> cases hk : eqV D x y <;> rw [hh, hk] at this <;> exact this
  | 4, _ =>
    rw [if_neg (by decide), if_neg (by decide), if_pos (by decide), if_neg (show ¬ nI 4 = 5 by decide)]
    have := fin (lesV D y x)
    show ∃ S', _ ∧ rVs t tq D (tru (lesV D y x) :: vs) S' ∧ _
    cases hh : lesV D y x <;> rw [hh] at this <;> exact this
  | 5, _ =>
    rw [if_neg (by decide), if_neg (by decide), if_pos (by decide), if_pos (show nI 5 = 5 from rfl)]
    have := fin (lesV D y x || eqV D x y)
    show ∃ S', _ ∧ rVs t tq D (tru (lesV D y x || eqV D x y) :: vs) S' ∧ _
    cases hh : lesV D y x <;> cases hk : eqV D x y <;> rw [hh, hk] at this <;> exact this
theorem e_logic1 {t : List Nat} {D : dS} {tq : List Nat} {S : md_S} {v : Option vQ} {vs : stk} (h : rVs t tq D (v :: vs) S) : ∃ S', mo_logic 8 S = some S' ∧ rVs t tq D (tru (!isT D v) :: vs) S' ∧ rF [76, 77, 78, 79] S S' := by
  have hl := h.2.1
  simp at hl
  obtain ⟨a1, a2⟩ := e_truth h
  unfold mo_logic mo_logic_j21
  rw [a1]
  simp only [md_bs, md_ci, if_true]
  obtain ⟨S2, p1, p2, p3⟩ := e_value a2 (show vs.length < 100 by omega) (rVl_tru (t := t) (tq := tq) (D := D) (b := !isT D v) (x := 0) (y := 0))
  refine ⟨S2, ?_, p2, (rF.rf.p (by decide)).tr p3 (fun _ z => z) (fun _ z => z)⟩
  rw [← p1]
  cases isT D v <;> rfl
theorem e_logic2 {t : List Nat} {D : dS} {tq : List Nat} {S : md_S} {a b : Option vQ} {vs : stk} {x : Int32} (hx : x = 9 ∨ x = 10) (h : rVs t tq D (b :: a :: vs) S) : ∃ S', mo_logic x S = some S' ∧ rVs t tq D (tru (if x = 9 then isT D a && isT D b else isT D a || isT D b) :: vs) S' ∧ rF [76, 77, 78, 79] S S' := by
  have hl := h.2.1
  simp at hl
  obtain ⟨a1, a2⟩ := e_truth h
  obtain ⟨b1, b2⟩ := e_truth a2
  unfold mo_logic mo_logic_j52 mo_logic_j64 mo_logic_j69 mo_logic_j82
  rw [a1]
  simp only [md_bs]
  rw [if_neg (by rcases hx with z | z <;> rw [z] <;> decide), b1]
  simp only [md_bs, md_ci]
  obtain ⟨S2, p1, p2, p3⟩ := e_value b2 (show vs.length < 100 by omega) (rVl_tru (t := t) (tq := tq) (D := D) (b := if x = 9 then isT D a && isT D b else isT D a || isT D b) (x := 0) (y := 0))
  refine ⟨S2, ?_, p2, ((rF.rf.p (by decide)).p (by decide)).tr p3 (fun _ z => z) (fun _ z => z)⟩
  rw [← p1]
  rcases hx with z | z <;> subst z <;> cases isT D a <;> cases isT D b <;> rfl
