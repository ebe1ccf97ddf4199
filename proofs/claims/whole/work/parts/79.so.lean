/-! the pile of values -/
def rVl (t tq : List Nat) (D : dS) (v : Option vQ) (k a b : Int32) : Prop := match v with
  | none => k = 7
  | some (.inl n) => n < D.1 ∧ k = nkd (D.2 n) ∧ (k = 3 → a = nsz (D.2 n)) ∧ (k = 4 → sDe t tq a b (ntx (D.2 n))) ∧ (k = 5 ∨ k = 6 → a = nI n)
  | some (.inr q) => k = q.1 ∧ (k = 3 → a = q.2.1) ∧ (k = 4 → sDe t tq a b q.2.2 ∧ b = q.2.1) ∧ (k = 0 ∨ k = 1 ∨ k = 2 ∨ k = 3 ∨ k = 4)
def rVa (t tq : List Nat) (D : dS) (S : md_S) : stk → Prop
  | [] => True
  | v :: r => rVl t tq D v (S.2 77 r.length) (S.2 78 r.length) (S.2 79 r.length) ∧ rVa t tq D S r
def rVs (t tq : List Nat) (D : dS) (vs : stk) (S : md_S) : Prop := S.1 76 = nI vs.length ∧ vs.length ≤ 100 ∧ rVa t tq D S vs
theorem rVa.u {t tq : List Nat} {D : dS} {S S' : md_S} {j : Nat} (e : ∀ i, i < j → S'.2 77 i = S.2 77 i ∧ S'.2 78 i = S.2 78 i ∧ S'.2 79 i = S.2 79 i) : ∀ {l : stk}, l.length ≤ j → rVa t tq D S l → rVa t tq D S' l
  | [], _, _ => trivial
  | x :: r, hl, h => by
    have := e r.length (by simp at hl; omega)
    exact ⟨by rw [this.1, this.2.1, this.2.2]; exact h.1, rVa.u e (by simp at hl; omega) h.2⟩
theorem rVs.f {t tq : List Nat} {D : dS} {vs : stk} {S S' : md_S} {K : List Nat} (h : rVs t tq D vs S) (f : rF K S S') (hk : ∀ k, k ∈ K → k < 76 ∨ 79 < k) : rVs t tq D vs S' :=
  ⟨by rw [(f 76 (fun z => by have := hk _ z; omega)).1]; exact h.1, h.2.1, rVa.u (j := vs.length) (fun i _ => ⟨by rw [(f 77 (fun z => by have := hk _ z; omega)).2], by rw [(f 78 (fun z => by have := hk _ z; omega)).2], by rw [(f 79 (fun z => by have := hk _ z; omega)).2]⟩) (Nat.le_refl _) h.2.2⟩
theorem e_value {t tq : List Nat} {D : dS} {vs : stk} {S : md_S} {v : Option vQ} {k a b : Int32} (h : rVs t tq D vs S) (hl : vs.length < 100) (hv : rVl t tq D v k a b) : ∃ S', mo_value k a b S = some S' ∧ rVs t tq D (v :: vs) S' ∧ rF [76, 77, 78, 79] S S' := by
  unfold mo_value
  simp only [h.1, md_w1, md_lx, if_pos (nI_in hl (by omega)), nI_clamp (show vs.length < 2 ^ 31 by omega)]
  refine ⟨_, rfl, ⟨?_, by simp; omega, ?_, ?_⟩, (((rF.rf.w (by decide)).w (by decide)).w (by decide)).p (by decide)⟩
  · rw [md_p1, if_pos rfl, nI_1]; rfl
  · simp only [md_p2]
    rw [md_w_k (by decide), md_w_k (by decide), md_w_s, md_w_k (by decide), md_w_s, md_w_s]
    exact hv
  · refine rVa.u (S := S) (j := vs.length) (fun i hi => ?_) (Nat.le_refl _) h.2.2
    simp only [md_p2]
    refine ⟨?_, ?_, ?_⟩ <;> rw [md_wn (by omega), md_wn (by omega), md_wn (by omega)]
theorem rVs.pop {t tq : List Nat} {D : dS} {vs : stk} {S : md_S} {v : Option vQ} (h : rVs t tq D (v :: vs) S) : rVs t tq D vs (md_p S 76 (nI vs.length)) ∧ S.1 76 - 1 = nI vs.length ∧ vs.length < 100 := by
  have hl := h.2.1
  simp at hl
  refine ⟨⟨by rw [md_p1, if_pos rfl], by omega, rVa.u (S := S) (S' := md_p S 76 (nI vs.length)) (j := vs.length) (fun i _ => ⟨rfl, rfl, rfl⟩) (Nat.le_refl _) h.2.2.2⟩, ?_, by omega⟩
  rw [h.1]
  exact nI_pred _
theorem rVl_tru {t tq : List Nat} {D : dS} {b : Bool} {x y : Int32} : rVl t tq D (tru b) (if b = true then 2 else 1) x y := by
  cases b
  · exact ⟨rfl, fun z => absurd z (by decide), fun z => absurd z (by decide), by decide⟩
  · exact ⟨rfl, fun z => absurd z (by decide), fun z => absurd z (by decide), by decide⟩
theorem rVl_T {t tq : List Nat} {D : dS} {v : Option vQ} {k x y : Int32} (h : rVl t tq D v k x y) : (k = 2) = (isT D v = true) := by
  cases v with
  | none =>
    have h1 : k = 7 := h
    rw [h1]
    simp [isT]
  | some w =>
    have h1 : k = vkd D w := by
      cases w with
      | inl n => exact h.2.1
      | inr q => exact h.1
    rw [h1]
    simp [isT]
theorem e_truth {t tq : List Nat} {D : dS} {vs : stk} {S : md_S} {v : Option vQ} (h : rVs t tq D (v :: vs) S) : mo_takeTruth S = some (bI (isT D v), md_p S 76 (nI vs.length)) ∧ rVs t tq D vs (md_p S 76 (nI vs.length)) := by
  obtain ⟨h1, h2, h3⟩ := h.pop
  refine ⟨?_, h1⟩
  unfold mo_takeTruth mo_takeTruth_j28
  simp only [md_lx, h2]
  have e76 : (md_p S 76 (nI vs.length)).1 76 = nI vs.length := h1.1
  simp only [e76, if_pos (nI_in h3 (by omega)), nI_clamp (show vs.length < 2 ^ 31 by omega), md_p2, rVl_T h.2.2.1]
  cases isT D v with
  | false => rw [if_neg (by decide), if_pos (Or.inl rfl)]; rfl
  | true => rw [if_pos rfl, if_pos (Or.inr rfl)]; rfl
/-- the node's own value -/
theorem e_nodeValue {t tq : List Nat} {D : dS} {Q : cQ} {vs : stk} {S : md_S} {n : Nat} (hS : rSt t D tq Q S) (hn : n < D.1) (h : rVs t tq D vs S) (hl : vs.length < 100) : ∃ S', mo_nodeValue (nI n) S = some S' ∧ rVs t tq D (some (.inl n) :: vs) S' ∧ rF [76, 77, 78, 79] S S' := by
  have h40 : D.1 ≤ 40 := hS.1.2.1.2.1
  have hr := hS.1.2.1.2.2.1 n hn
  unfold mo_nodeValue
  simp only [if_pos (nI_in (show n < 41 by omega) (by omega)), nI_clamp (show n < 2 ^ 31 by omega), hr.1, md_ci]
  by_cases e3 : nkd (D.2 n) = 3
  · rw [if_pos e3]
    exact e_value h hl ⟨hn, e3.symm, fun _ => hr.2.2.2.1 (Or.inl e3), fun z => absurd z (by decide), fun z => absurd z (by decide)⟩
  · rw [if_neg e3]
    by_cases e4 : nkd (D.2 n) = 4
    · rw [if_pos e4]
      exact e_value h hl ⟨hn, e4.symm, fun z => absurd z (by decide), fun _ => sDe_n hS hn e4, fun z => absurd z (by decide)⟩
    · rw [if_neg e4]
      exact e_value h hl ⟨hn, rfl, fun z => absurd z e3, fun z => absurd z e4, fun _ => rfl⟩
theorem rVl.kd {t tq : List Nat} {D : dS} {x : vQ} {k a b : Int32} (h : rVl t tq D (some x) k a b) : k = vkd D x := by
  cases x with
  | inl n => exact h.2.1
  | inr q => exact h.1
theorem e_lengthOf {t tq : List Nat} {D : dS} {Q : cQ} {vs : stk} {S : md_S} {v : Option vQ} {N : Nat} (hN : 161 ≤ N) (hS : rSt t D tq Q S) (h : rVs t tq D (v :: vs) S) : ∃ S', mo_lengthOf N S = some S' ∧ rVs t tq D (lenO D v :: vs) S' ∧ rF [76, 77, 78, 79] S S' := by
  obtain ⟨h1, h2, h3⟩ := h.pop
  have hv := h.2.2.1
  have h40 : D.1 ≤ 40 := hS.1.2.1.2.1
  obtain ⟨g, hI⟩ := hS.1.1.1
  have f0 : rF [76, 77, 78, 79] S (md_p S 76 (nI vs.length)) := rF.rf.p (by decide)
  have hS1 := hS.f f0 (fun k z => by simp at z; omega)
  unfold mo_lengthOf mo_lengthOf_j54
  simp only [md_lx, h2]
  have e76 : (md_p S 76 (nI vs.length)).1 76 = nI vs.length := h1.1
  simp only [e76, if_pos (nI_in h3 (by omega)), nI_clamp (show vs.length < 2 ^ 31 by omega), md_p2, md_ci]
  have fin : ∀ {k a b : Int32}, rVl t tq D (lenO D v) k a b → ∃ S', mo_value k a b (md_p S 76 (nI vs.length)) = some S' ∧ rVs t tq D (lenO D v :: vs) S' ∧ rF [76, 77, 78, 79] S S' := fun {k a b} hh => by
    obtain ⟨S', a, b, c⟩ := e_value h1 h3 hh
    exact ⟨S', a, b, f0.tr c (fun _ z => z) (fun _ z => z)⟩
  cases v with
  | none =>
    have e7 : S.2 77 vs.length = 7 := hv
    rw [e7, if_neg (by decide), if_neg (by decide), if_neg (by decide)]
    exact fin rfl
  | some x =>
    have ek := hv.kd
    rw [ek]
    by_cases e4 : vkd D x = 4
    · rw [if_pos e4]
      refine fin ?_
      unfold lenO
      simp only [e4, if_neg (show ¬ ((4 : Int32) < 4) by decide)]
      refine ⟨rfl, fun _ => ?_, fun z => absurd z (by decide), by decide⟩
      cases x with
      | inl n =>
        have hs := hv.2.2.2.1 (ek.trans e4)
        have e4' : nkd (D.2 n) = 4 := e4
        rw [hs.1]
        exact (hI.2.2.2.2.2.2.2.1 n hv.1 e4').2.1.symm
      | inr q => exact (hv.2.2.1 (ek.trans e4)).2
    · rw [if_neg e4]
      by_cases eb : vkd D x = 5 ∨ vkd D x = 6
      · cases x with
        | inl n =>
          have eb' : nkd (D.2 n) = 5 ∨ nkd (D.2 n) = 6 := eb
          have ea := hv.2.2.2.2 (by rw [ek]; exact eb)
          have hj : (if vkd D (.inl n) = 5 then md_b (mo_children N (S.2 78 vs.length) (md_p S 76 (nI vs.length))) fun v66 S66 => mo_value 3 v66 0 S66 else if vkd D (.inl n) = 6 then md_b (mo_children N (S.2 78 vs.length) (md_p S 76 (nI vs.length))) fun v66 S66 => mo_value 3 v66 0 S66 else mo_value 7 0 0 (md_p S 76 (nI vs.length))) = mo_value 3 (nI (nki (D.2 n)).length) 0 (md_p S 76 (nI vs.length)) := by
            rw [ea, e_children hS1.1 hv.1 hN]
            simp only [md_bs]
            rcases eb with z | z
            · rw [if_pos z]
            · rw [if_neg (by rw [z]; decide), if_pos z]
          rw [hj]
          refine fin ?_
          unfold lenO
          have nlt : ¬ vkd D (.inl n) < 4 := by rcases eb with z | z <;> rw [z] <;> decide
          simp only [if_neg nlt]
          refine ⟨rfl, fun _ => ?_, fun z => absurd z (by decide), by decide⟩
          exact (hI.2.2.2.1 n hv.1 ⟨by rcases eb' with z | z <;> rw [z] <;> decide, by rcases eb' with z | z <;> rw [z] <;> decide⟩).symm
        | inr q =>
          exfalso
          have hh := hv.2.2.2
          rw [ek] at hh
          rcases eb with z | z <;> rw [z] at hh <;> exact absurd hh (by decide)
      · rw [if_neg (fun z => eb (Or.inl z)), if_neg (fun z => eb (Or.inr z))]
        refine fin ?_
        have lt : vkd D x < 4 := by
          have hkk : vkd D x = 0 ∨ vkd D x = 1 ∨ vkd D x = 2 ∨ vkd D x = 3 := by
            cases x with
            | inl n =>
              have := (hI.2.2.2.2.2.2.2.2 n hv.1).1
              have e4' : ¬ nkd (D.2 n) = 4 := e4
              have eb' : ¬ isB (nkd (D.2 n)) := eb
              show nkd (D.2 n) = 0 ∨ nkd (D.2 n) = 1 ∨ nkd (D.2 n) = 2 ∨ nkd (D.2 n) = 3
              rcases this with z | z | z | z | z | z
              · exact Or.inl z
              · exact Or.inr (Or.inl z)
              · exact Or.inr (Or.inr (Or.inl z))
              · exact Or.inr (Or.inr (Or.inr z))
              · exact absurd z e4'
              · exact absurd z eb'
            | inr q =>
              have hh := hv.2.2.2
              rw [ek] at hh
              rcases hh with z | z | z | z | z
              · exact Or.inl z
              · exact Or.inr (Or.inl z)
              · exact Or.inr (Or.inr (Or.inl z))
              · exact Or.inr (Or.inr (Or.inr z))
              · exact absurd z e4
          rcases hkk with z | z | z | z <;> rw [z] <;> decide
        unfold lenO
        simp only [if_pos lt]
        rfl
theorem rVl.sz {t tq : List Nat} {D : dS} {x : vQ} {k a b : Int32} (h : rVl t tq D (some x) k a b) (h3 : k = 3) : a = vsz D x := by
  cases x with
  | inl n => exact h.2.2.1 h3
  | inr q => exact h.2.1 h3
theorem rVl.tx {t tq : List Nat} {D : dS} {x : vQ} {k a b : Int32} (h : rVl t tq D (some x) k a b) (h4 : k = 4) : sDe t tq a b (vtx D x) := by
  cases x with
  | inl n => exact h.2.2.2.1 h4
  | inr q => exact (h.2.2.1 h4).1
theorem rVl.n7 {t : List Nat} {g : Nat → Nat} {tq : List Nat} {D : dS} (hI : dI t g D) {x : vQ} {k a b : Int32} (h : rVl t tq D (some x) k a b) : k ≠ 7 := by
  cases x with
  | inl n =>
    have := (hI.2.2.2.2.2.2.2.2 n h.1).1
    rw [h.2.1]
    unfold isB at this
    intro z
    rw [z] at this
    exact absurd this (by decide)
  | inr q =>
    have := h.2.2.2
    intro z
    rw [z] at this
    exact absurd this (by decide)
