/-- what answers a child -/
def ansF (D : dS) (i c k j : Nat) : Option Nat := if nkd (D.2 i) = 5 then (nki (D.2 j))[k]? else kidN D j (nnm (D.2 c))
theorem ansF_lt {t : List Nat} {g : Nat → Nat} {D : dS} (hI : dI t g D) {i c k j d : Nat} (hj : j < D.1) (h : ansF D i c k j = some d) : d < D.1 := by
  unfold ansF at h
  have kin : ∀ x, x ∈ nki (D.2 j) → x < D.1 := fun x hx => by rw [hI.2.2.1 j hj] at hx; exact (kF_m.mp hx).1
  split at h
  · exact kin d (List.mem_of_getElem? h)
  · exact kin d (List.mem_of_find?_eq_some h)
theorem e_answL {t : List Nat} {D : dS} {tq : List Nat} {Q : cQ} {S : md_S} {c y N : Nat} (hN : 161 ≤ N) (hS : rSt t D tq Q S) (hc : c < D.1) (hy : y < D.1) : ∀ (ks : List Nat) (fu : Nat), (∃ b, y ≤ b ∧ b ≤ 41 ∧ ks = kidsB D y b) → ks.length + 1 ≤ fu → mo_answer_l28 N fu (nI c) (nI y) (oI ks.head?) S = some (oI (ks.find? fun j => nnm (D.2 j) == nnm (D.2 c)), S) := by
  have h40 : D.1 ≤ 40 := hS.1.2.1.2.1
  have cC := (hS.1.2.1.2.2.1 c hc).2.2.2.2.1
  intro ks
  induction ks with
  | nil =>
    intro fu hk hfu
    obtain ⟨fu, rfl⟩ : ∃ k, fu = k + 1 := ⟨fu - 1, by omega⟩
    rw [mo_answer_l28, if_pos (show oI ([] : List Nat).head? = -1 from rfl)]
    rfl
  | cons d r ih =>
    intro fu hk hfu
    obtain ⟨fu, rfl⟩ : ∃ k, fu = k + 1 := ⟨fu - 1, by omega⟩
    obtain ⟨b, b1, b2, b3⟩ := hk
    obtain ⟨c1, c2, c3, c4⟩ := kidsB_c b3.symm
    have cD := (hS.1.2.1.2.2.1 d c3).2.2.2.2.1
    rw [mo_answer_l28, if_neg (show ¬ oI (d :: r).head? = -1 from nI_m1 (by omega)), show oI (d :: r).head? = nI d from rfl]
    simp only [if_pos (nI_in (show c < 41 by omega) (by omega)), nI_clamp (show c < 2 ^ 31 by omega), if_pos (nI_in (show d < 41 by omega) (by omega)), nI_clamp (show d < 2 ^ 31 by omega)]
    rw [e_same cC cD hS.1.2.2 hS.1.2.2 hN]
    simp only [md_bs, i01]
    rw [List.find?_cons]
    by_cases e : nnm (D.2 c) = nnm (D.2 d)
    · rw [if_neg (fun z => z e), beq_iff_eq.mpr e.symm]
      rfl
    · rw [if_pos e, beq_eq_false_iff_ne.mpr (fun z => e z.symm), hS.kid hy (by omega) (by omega) hN, c1]
      simp only [md_bs]
      exact ih fu ⟨d, by omega, by omega, c1.symm⟩ (by simp at hfu; omega)
theorem e_answer {t : List Nat} {D : dS} {tq : List Nat} {Q : cQ} {S : md_S} {x c i y N : Nat} (hN : 161 ≤ N) (hS : rSt t D tq Q S) (hx : x < D.1) (hc : c < D.1) (hy : y < D.1) (hi : i < 1000) : mo_answer N (nI x) (nI c) (nI i) (nI y) S = some (oI (ansF D x c i y), S) := by
  have h40 : D.1 ≤ 40 := hS.1.2.1.2.1
  obtain ⟨⟨g, hI⟩, _, _⟩ := hS.1.1
  have hk0 := kidsB_0 hI hy
  have hlen := kids_len hI hy
  unfold mo_answer ansF
  simp only [if_pos (nI_in (show x < 41 by omega) (by omega)), nI_clamp (show x < 2 ^ 31 by omega), (hS.1.2.1.2.2.1 x hx).1]
  by_cases e : nkd (D.2 x) = 5
  · rw [if_pos e, if_pos e, e_childAt hS.1 hy (by omega) hN]
    rfl
  · rw [if_neg e, if_neg e, hS.kid hy (Nat.le_refl _) (by omega) hN]
    simp only [md_bs]
    rw [e_answL hN hS hc hy (kidsB D y y) N ⟨y, Nat.le_refl _, by omega, rfl⟩ (by rw [hk0]; omega), hk0]
    rfl
def stS (D : dS) (rec : Nat → Nat → Bool) (i j : Nat) : List Nat → Nat → Bool
  | [], _ => true
  | c :: r, k => (match ansF D i c k j with
    | none => false
    | some d => rec c d) && stS D rec i j r (k + 1)
def stA (D : dS) : Nat → Nat → Nat → Bool
  | 0, _, _ => false
  | f + 1, i, j => lfA D i j && ((nki (D.2 i)).length == (nki (D.2 j)).length) && stS D (stA D f) i j (nki (D.2 i)) 0
/-- pairs that wait -/
def rPr (S : md_S) : List (Nat × Nat) → Prop
  | [] => True
  | x :: r => (S.2 80 r.length = nI x.1 ∧ S.2 81 r.length = nI x.2) ∧ rPr S r
theorem rPr.u {S S' : md_S} {j : Nat} (e : ∀ i, i < j → S'.2 80 i = S.2 80 i ∧ S'.2 81 i = S.2 81 i) : ∀ {l : List (Nat × Nat)}, l.length ≤ j → rPr S l → rPr S' l
  | [], _, _ => trivial
  | x :: r, hl, h => by
    have := e r.length (by simp at hl; omega)
    exact ⟨by rw [this.1, this.2]; exact h.1, rPr.u e (by simp at hl; omega) h.2⟩
def prs (D : dS) (x y : Nat) : List Nat → Nat → List (Nat × Nat)
  | [], _ => []
  | c :: r, i => prs D x y r (i + 1) ++ [(c, (ansF D x c i y).getD c)]
def allS (D : dS) (x y : Nat) : List Nat → Nat → Bool
  | [], _ => true
  | c :: r, i => (ansF D x c i y).isSome && allS D x y r (i + 1)
abbrev iaL (N n : Nat) (ph : Nat) (x3 x4 x5 x6 x7 x8 : Int32) (S : md_S) := mo_isAlike_l19 N n ph x3 x4 x5 x6 x7 x8 S
theorem e_iaP1 {t : List Nat} {D : dS} {tq : List Nat} {Q : cQ} {x y N : Nat} (hN : 161 ≤ N) (hx : x < D.1) (hy : y < D.1) : ∀ (ks : List Nat) (i : Nat) (gd : Bool) (st : List (Nat × Nat)) (S : md_S), rSt t D tq Q S → (∃ b, x ≤ b ∧ b ≤ 41 ∧ ks = kidsB D x b) → i + ks.length ≤ 100 → st.length + ks.length ≤ 200 → rPr S st → ∃ S', (∀ n, iaL N (n + (ks.length + 1)) 1 (nI st.length) (bI gd) (nI x) (nI y) (nI i) (oI ks.head?) S = iaL N n 0 (nI (prs D x y ks i ++ st).length) (bI (gd && allS D x y ks i)) 0 0 0 0 S') ∧ rPr S' (prs D x y ks i ++ st) ∧ rF [80, 81] S S' := by
  intro ks
  induction ks with
  | nil =>
    intro i gd st S hS hk hi hst hp
    refine ⟨S, fun n => ?_, hp, rF.rf⟩
    show mo_isAlike_l19 N (n + 1) 1 _ _ _ _ _ _ S = _
    rw [mo_isAlike_l19, if_neg (by decide), if_pos (show oI ([] : List Nat).head? = -1 from rfl)]
    simp [prs, allS]
  | cons c r ih =>
    intro i gd st S hS hk hi hst hp
    have h40 : D.1 ≤ 40 := hS.1.2.1.2.1
    obtain ⟨⟨g, hI⟩, _, _⟩ := hS.1.1
    obtain ⟨b, b1, b2, b3⟩ := hk
    obtain ⟨c1, c2, c3, c4⟩ := kidsB_c b3.symm
    simp only [List.length_cons] at hi hst
    -- what is laid on the pile
    obtain ⟨d, hd⟩ : ∃ d, d = (ansF D x c i y).getD c := ⟨_, rfl⟩
    have hdl : d < D.1 := by
      rw [hd]
      cases ha : ansF D x c i y with
      | none => exact c3
      | some q => exact ansF_lt hI hy ha
    obtain ⟨S1, hS1⟩ : ∃ S1, S1 = md_w (md_w S 80 st.length (nI c)) 81 st.length (nI d) := ⟨_, rfl⟩
    have f1 : rF [80, 81] S S1 := by rw [hS1]; exact (rF.rf.w (by decide)).w (by decide)
    have hS1' := hS.f f1 (fun k z => by simp at z; omega)
    have hp1 : rPr S1 ((c, d) :: st) := by
      refine ⟨⟨?_, ?_⟩, rPr.u (j := st.length) (fun q hq => ?_) (Nat.le_refl _) hp⟩
      · rw [hS1, md_w_k (by decide), md_w_s]
      · rw [hS1, md_w_s]
      · rw [hS1]
        exact ⟨by rw [md_wn (by omega), md_wn (by omega)], by rw [md_wn (by omega), md_wn (by omega)]⟩
    obtain ⟨S2, g1, g2, g3⟩ := ih (i + 1) (gd && (ansF D x c i y).isSome) ((c, d) :: st) S1 hS1' ⟨c, by omega, by omega, c1.symm⟩ (by omega) (by simp; omega) hp1
    have hpr : prs D x y (c :: r) i ++ st = prs D x y r (i + 1) ++ ((c, d) :: st) := by
      rw [prs, ← hd]; simp
    refine ⟨S2, fun n => ?_, by rw [hpr]; exact g2, f1.tr g3 (fun _ z => z) (fun _ z => z)⟩
    show mo_isAlike_l19 N (n + (r.length + 1) + 1) 1 _ _ _ _ _ _ S = _
    rw [mo_isAlike_l19, if_neg (by decide), if_neg (show ¬ oI (c :: r).head? = -1 from nI_m1 (by omega)), show oI (c :: r).head? = nI c from rfl, e_answer hN hS hx c3 hy (by omega)]
    simp only [md_bs, md_lx, if_pos (nI_in (show st.length < 200 by omega) (by omega)), nI_clamp (show st.length < 2 ^ 31 by omega)]
    have hfo : ∀ {S3 : md_S}, S3 = S1 → mo_follower N (nI x) (nI c) S3 = some (oI r.head?, S3) := fun {S3} e => by
      rw [e, hS1'.kid hx (by omega) (by omega) hN, c1]
    have hgo : mo_isAlike_l19 N (n + (r.length + 1)) 1 (nI st.length + 1) (bI (gd && (ansF D x c i y).isSome)) (nI x) (nI y) (nI i + 1) (oI r.head?) S1 = iaL N n 0 (nI (prs D x y (c :: r) i ++ st).length) (bI (gd && allS D x y (c :: r) i)) 0 0 0 0 S2 := by
      rw [nI_1, nI_1, hpr, show (gd && allS D x y (c :: r) i) = ((gd && (ansF D x c i y).isSome) && allS D x y r (i + 1)) by rw [allS, Bool.and_assoc]]
      exact g1 n
    cases ha : ansF D x c i y with
    | none =>
      have ed : d = c := by rw [hd, ha]; rfl
      rw [ha] at hgo
      have hgo' : mo_isAlike_l19 N (n + (r.length + 1)) 1 (nI st.length + 1) 0 (nI x) (nI y) (nI i + 1) (oI r.head?) S1 = iaL N n 0 (nI (prs D x y (c :: r) i ++ st).length) (bI (gd && allS D x y (c :: r) i)) 0 0 0 0 S2 := by
        rw [← hgo]; congr 1; simp [bI]
      have eS : md_w (md_w S 80 st.length (nI c)) 81 st.length (nI c) = S1 := by rw [hS1, ed]
      simp only [if_pos (show oI none = -1 from rfl), eS, hfo rfl, md_bs, hgo', ite_self]
    | some q =>
      have hq : q < D.1 := ansF_lt hI hy ha
      have ed : d = q := by rw [hd, ha]; rfl
      rw [ha] at hgo
      have nq : ¬ oI (some q) = -1 := nI_m1 (by omega)
      have eS : md_w (md_w S 80 st.length (nI c)) 81 st.length (oI (some q)) = S1 := by rw [hS1, ed]; rfl
      simp only [if_neg nq, eS, hfo rfl, md_bs]
      cases gd with
      | false =>
        rw [if_pos (by rfl)]
        exact hgo
      | true =>
        rw [if_neg (by decide)]
        exact hgo
