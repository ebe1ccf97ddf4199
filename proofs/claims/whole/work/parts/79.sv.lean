/-! nodes, segments and paths are run -/
def J1 : List Nat := [62, 65, 66, 67, 68, 69, 70, 71, 73, 75]
def PN (t tq : List Nat) (D : dS) (f : Nat) (vs : stk) (s : Nat) (row : List Nat) (i r n : Nat) (nx : List Nat) (S : md_S) : Prop := tp t tq D f vs S ∧ S.2 64 f = nI s ∧ S.2 65 f = nI i ∧ S.2 66 f = nI r ∧ S.2 67 f = nI n ∧ rRow f row S ∧ rNxt f nx S ∧ lt40 D nx
theorem PN.k {t tq : List Nat} {D : dS} {f : Nat} {vs : stk} {s : Nat} {row : List Nat} {i r n : Nat} {nx nx' : List Nat} {S S' : md_S} (h : PN t tq D f vs s row i r n nx S) (h1 : P1' t tq D f vs nx' S') (l : lx J2 f S S') : PN t tq D f vs s row i r n nx' S' := by
  obtain ⟨a1, a2, a3, a4, a5, a6, a7, a8⟩ := h
  obtain ⟨b1, b2, b3, b4⟩ := h1
  refine ⟨b1, ?_, ?_, ?_, ?_, a6.lx l (by decide) (by decide), b3, b4⟩
  · rw [l.2.1 64 (by omega) (by omega) (by decide)]; exact a2
  · rw [l.2.1 65 (by omega) (by omega) (by decide)]; exact a3
  · rw [l.2.1 66 (by omega) (by omega) (by decide)]; exact a4
  · rw [l.2.1 67 (by omega) (by omega) (by decide)]; exact a5
/-- counting a node -/
theorem e_j195 {t : List Nat} {D : dS} {tq : List Nat} {Q : cQ} {S : md_S} {N f s G : Nat} (hf : f < 7) (hS : rSt t D tq Q S) (hs : s < (qg Q).1) (h60 : S.1 60 = 0) (h61 : S.1 61 = nI G) (hG : G ≤ 1000000) (h64 : S.2 64 f = nI s) : ∃ S', mo_stepNode_j195 N (nI f) S = some S' ∧ rF [60, 61, 62, 68] S S' ∧ S'.1 61 = nI (G + 1) ∧ S'.1 60 = (if G + 1 ≤ 1000000 then 0 else 1) ∧ S'.2 62 f = 2 ∧ S'.2 68 f = oI ((qg Q).2.2 s).head? ∧ lx J1 f S S' := by
  have hq := hS.2.1.2.1.2.1
  have hl := chn_h (hS.2.1.2.2.2.2.2.2.2.1 s hs).1
  have e61 : S.1 61 + 1 = nI (G + 1) := by rw [h61, nI_1]
  have g61 : (md_p S 61 (nI (G + 1))).1 61 = nI (G + 1) := by rw [md_p1, if_pos rfl]
  have g60 : (md_p S 61 (nI (G + 1))).1 60 = 0 := by rw [md_p1, if_neg (by decide)]; exact h60
  have hle : ((nI (G + 1)) ≤ (1000000 : Int32)) = (G + 1 ≤ 1000000) := by
    rw [show (1000000 : Int32) = nI 1000000 from rfl]
    exact propext ⟨fun z => Classical.byContradiction fun w => absurd z (by
      rw [Int32.not_le]
      rw [Int32.lt_iff_toInt_lt, nI_toInt (by omega), nI_toInt (by omega)]; omega), fun z => by
      rw [Int32.le_iff_toInt_le, nI_toInt (by omega), nI_toInt (by omega)]; omega⟩
  unfold mo_stepNode_j195 mo_stepNode_j223 mo_stepNode_j228
  simp only [md_lx, e61, g61, g60, if_true, hle]
  have go : ∀ (y : Int32), md_bo y → ∃ S', (if md_bo y then if md_in (nI f) 8 then if md_in ((md_p (md_p S 61 (nI (G + 1))) 60 y).2 64 (nI f).toNatClampNeg) 170 then if md_in (nI f) 8 then if md_in (nI f) 8 then some (md_w (md_w (md_p (md_p S 61 (nI (G + 1))) 60 y) 68 (nI f).toNatClampNeg ((md_p (md_p S 61 (nI (G + 1))) 60 y).2 38 ((md_p (md_p S 61 (nI (G + 1))) 60 y).2 64 (nI f).toNatClampNeg).toNatClampNeg)) 62 (nI f).toNatClampNeg 2) else none else none else none else none else none) = some S' ∧ rF [60, 61, 62, 68] S S' ∧ S'.1 61 = nI (G + 1) ∧ S'.1 60 = y ∧ S'.2 62 f = 2 ∧ S'.2 68 f = oI ((qg Q).2.2 s).head? ∧ lx J1 f S S' := fun y hy => by
    simp only [if_pos hy, if_pos (nI_in (show f < 8 by omega) (by omega)), nI_clamp (show f < 2 ^ 31 by omega), md_p2, h64, if_pos (nI_in (show s < 170 by omega) (by omega)), nI_clamp (show s < 2 ^ 31 by omega), hl]
    refine ⟨_, rfl, (((rF.rf.p (by decide)).p (by decide)).w (by decide)).w (by decide), ?_, ?_, md_w_s, ?_, (((lx.rf.p).p).w (by decide) (by decide) (by decide)).w (by decide) (by decide) (by decide)⟩
    · simp only [md_w1]
      rw [md_p1, if_neg (by decide), md_p1, if_pos rfl]
    · simp only [md_w1]
      rw [md_p1, if_pos rfl]
    · rw [md_w_k (by decide), md_w_s]
  by_cases hg : G + 1 ≤ 1000000
  · simp only [if_pos hg]
    exact go 0 (Or.inl rfl)
  · simp only [if_neg hg]
    exact go 1 (Or.inr rfl)
/-- the next node below -/
theorem e_down {t : List Nat} {D : dS} {tq : List Nat} {Q : cQ} {f s i r n : Nat} {vs : stk} {row nx : List Nat} (hf : f < 7) (hW : dW t D) (hs : s < (qg Q).1) (hbw : ((qg Q).2.1 s).1 = true) (hr : r < D.1) (hn : n + 1 < nAf D r) : RN 1 t D tq Q (fun S => PN t tq D f vs s row i r n nx S ∧ S.2 62 f = 1 ∧ i < 300) (some ((), 1)) (fun _ S S' => (PN t tq D f vs s row i r (n + 1) nx S' ∧ S'.2 62 f = 2 ∧ S'.2 68 f = oI ((qg Q).2.2 s).head?) ∧ lx J1 f S S') := by
  refine RN.one (fun S h => h.1.1.n0 (by omega)) fun N hN S G hS h60 h61 hG h => ?_
  obtain ⟨⟨a1, a2, a3, a4, a5, a6, a7, a8⟩, h62, hi⟩ := h
  obtain ⟨gg, hI⟩ := hW.1
  have h40 := hI.1.1
  have hq := hS.2.1.2.1.2.1
  obtain ⟨e, a, hfi⟩ : ∃ e a, nfi (D.2 r) = some (e, a) := by
    cases hz : nfi (D.2 r) with
    | none => exact absurd hz (hW.2.2 r hr).1
    | some q => exact ⟨q.1, q.2, rfl⟩
  have hna : nAf D r = a := by unfold nAf; rw [hfi]; rfl
  have hai := hI.2.2.2.2.2.1 r e a hr hfi
  have e14 := ((hS.1.2.1.2.2.1 r hr).2.2.2.2.2 e a hfi).2
  have e14' : S.2 14 r = nI (a - 1) := by
    rw [e14, show nI a = nI ((a - 1) + 1) by congr 1; omega, nI_pred]
  have e42 := (hS.2.1.2.2.2.1 s hs).1
  obtain ⟨S1, hS1⟩ : ∃ S1, S1 = md_w S 67 f (nI (n + 1)) := ⟨_, rfl⟩
  have f1 : rF [67] S S1 := by rw [hS1]; exact rF.rf.w (by decide)
  have l1 : lx J1 f S S1 := by rw [hS1]; exact lx.rf.w (by decide) (by decide) (by decide)
  have e67 : S1.2 67 f = nI (n + 1) := by rw [hS1]; exact md_w_s
  obtain ⟨S2, b1, b2, b3, b4, b5, b6, b7⟩ := e_j195 (N := N) hf (hS.f f1 (fun q z => by simp at z; omega)) hs ((f1 60 (by decide)).1.trans h60) ((f1 61 (by decide)).1.trans h61) hG (by rw [(f1 64 (by decide)).2]; exact a2)
  have hst : mo_step N S = some S2 := by
    rw [← b1, hS1]
    unfold mo_step mo_stepNode
    simp only [a1.1, nI_pred, if_pos (nI_in (show f < 8 by omega) (by omega)), nI_clamp (show f < 2 ^ 31 by omega), h62, a3, a2, if_pos (nI_in (show s < 170 by omega) (by omega)), nI_clamp (show s < 2 ^ 31 by omega), e42, hbw, a4, if_pos (nI_in (show r < 41 by omega) (by omega)), nI_clamp (show r < 2 ^ 31 by omega), a5, e14', nI_1, md_lx, md_ci]
    rw [if_neg (by decide), if_pos trivial, if_neg (fun z => by
      rw [Int32.lt_iff_toInt_lt, nI_toInt (by omega)] at z; exact absurd z (by show ¬ (_ < (0 : Int)); omega)), if_neg (by decide), if_neg (fun z => by
      rw [Int32.le_iff_toInt_le, nI_toInt (by omega), nI_toInt (by omega)] at z; omega)]
  have f2 : rF [60, 61, 62, 67, 68] S S2 := f1.tr b2 (fun q z => by simp at z ⊢; omega) (fun q z => by simp at z ⊢; omega)
  refine ⟨S2, hst, f2.mn (fun q z => by simp at z; exact KM_in (by omega) (by omega)), fun x k hx hk => ?_, fun ho => ?_⟩
  · cases hx
    refine ⟨by rw [b4, if_pos hk], b3, ⟨⟨a1.f f2 (fun q z => by simp at z; omega), ?_, ?_, ?_, ?_, a6.f f2 (by decide) (by decide), a7.f f2 (by decide) (by decide), a8⟩, b5, b6⟩, l1.tr b7 (fun _ z => z) (fun _ z => z)⟩
    · rw [(f2 64 (by decide)).2]; exact a2
    · rw [(f2 65 (by decide)).2]; exact a3
    · rw [(f2 66 (by decide)).2]; exact a4
    · rw [(b2 67 (by decide)).2]; exact e67
  · rcases ho with z | ⟨x, k, z, z2⟩
    · cases z
    · cases z
      rw [b4, if_neg (by omega)]
/-- between two nodes of the row -/
def PS (t tq : List Nat) (D : dS) (Q : cQ) (f : Nat) (vs : stk) (s : Nat) (row : List Nat) (i : Nat) (nx : List Nat) (S : md_S) : Prop := tp t tq D f vs S ∧ S.2 62 f = 1 ∧ S.2 64 f = nI s ∧ S.2 65 f = nI i - 1 ∧ rRow f row S ∧ rNxt f nx S ∧ lt40 D nx ∧ (i = 0 ∨ ((qg Q).2.1 s).1 = false ∨ ∃ r n, r < D.1 ∧ S.2 66 f = nI r ∧ S.2 67 f = nI n ∧ nAf D r ≤ n + 1 ∧ n < 100)
theorem e_j56 {t : List Nat} {D : dS} {tq : List Nat} {Q : cQ} {f s i : Nat} {vs : stk} {row nx : List Nat} {N : Nat} {S : md_S} (hf : f < 7) (hW : dW t D) (hs : s < (qg Q).1) (hS : rSt t D tq Q S) (hi : i ≤ 300) (h : PS t tq D Q f vs s row i nx S) : mo_step N S = mo_stepNode_j56 N (nI f) S := by
  obtain ⟨a1, h62, a2, a3, a6, a7, a8, hd⟩ := h
  obtain ⟨gg, hI⟩ := hW.1
  have h40 := hI.1.1
  have hq := hS.2.1.2.1.2.1
  have e42 := (hS.2.1.2.2.2.1 s hs).1
  unfold mo_step mo_stepNode
  simp only [a1.1, nI_pred, if_pos (nI_in (show f < 8 by omega) (by omega)), nI_clamp (show f < 2 ^ 31 by omega), h62, a3, a2, if_pos (nI_in (show s < 170 by omega) (by omega)), nI_clamp (show s < 2 ^ 31 by omega), e42, md_ci, bI_0]
  rw [if_neg (by decide), if_pos trivial]
  rcases hd with e | e | ⟨r, n, hr, e66, e67, hn, hn2⟩
  · subst e
    rw [if_pos (show nI 0 - 1 < 0 by decide)]
  · rw [if_pos e, ite_self]
  · obtain ⟨e, a, hfi⟩ : ∃ e a, nfi (D.2 r) = some (e, a) := by
      cases hz : nfi (D.2 r) with
      | none => exact absurd hz (hW.2.2 r hr).1
      | some q => exact ⟨q.1, q.2, rfl⟩
    have hna : nAf D r = a := by unfold nAf; rw [hfi]; rfl
    have hai := hI.2.2.2.2.2.1 r e a hr hfi
    have e14 := ((hS.1.2.1.2.2.1 r hr).2.2.2.2.2 e a hfi).2
    have e14' : S.2 14 r = nI (a - 1) := by
      rw [e14, show nI a = nI ((a - 1) + 1) by congr 1; omega, nI_pred]
    simp only [e66, e67, if_pos (nI_in (show r < 41 by omega) (by omega)), nI_clamp (show r < 2 ^ 31 by omega), e14']
    rw [if_pos (show nI (a - 1) ≤ nI n by
      rw [Int32.le_iff_toInt_le, nI_toInt (by omega), nI_toInt (by omega)]; omega), ite_self, ite_self]
/-- the next node of the row -/
theorem e_nextN {t : List Nat} {D : dS} {tq : List Nat} {Q : cQ} {f s : Nat} {vs : stk} {done rest nx : List Nat} {r : Nat} (hf : f < 7) (hW : dW t D) (hs : s < (qg Q).1) (hr : r < D.1) : RN 1 t D tq Q (PS t tq D Q f vs s (done ++ r :: rest) done.length nx) (some ((), 1)) (fun _ S S' => (PN t tq D f vs s (done ++ r :: rest) done.length r r nx S' ∧ S'.2 62 f = 2 ∧ S'.2 68 f = oI ((qg Q).2.2 s).head?) ∧ lx J1 f S S') := by
  refine RN.one (fun S h => h.1.n0 (by omega)) fun N hN S G hS h60 h61 hG h => ?_
  have hi : done.length < 300 := by
    have := h.2.2.2.2.1.2.1
    simp at this; omega
  have st0 := e_j56 (N := N) hf hW hs hS (by omega) h
  obtain ⟨a1, h62, a2, a3, a6, a7, a8, hd⟩ := h
  have e65 : S.2 65 f + 1 = nI done.length := by
    rw [a3, Int32.sub_add_cancel]
  have hlen : (done ++ r :: rest).length = done.length + rest.length + 1 := by simp; omega
  have e74 : S.2 74 (300 * f + done.length) = nI r := by
    rw [a6.2.2 done.length (by omega)]
    unfold lk
    simp
  have hll := a6.2.1
  have ea : (300 : Int32) * nI f + nI done.length = nI (300 * f + done.length) := by
    rw [show (300 : Int32) = nI 300 from rfl, pk_mul, nI_add]
  obtain ⟨S1, hS1⟩ : ∃ S1, S1 = md_w (md_w (md_w S 65 f (nI done.length)) 66 f (nI r)) 67 f (nI r) := ⟨_, rfl⟩
  have f1 : rF [65, 66, 67] S S1 := by rw [hS1]; exact ((rF.rf.w (by decide)).w (by decide)).w (by decide)
  have l1 : lx J1 f S S1 := by rw [hS1]; exact ((lx.rf.w (by decide) (by decide) (by decide)).w (by decide) (by decide) (by decide)).w (by decide) (by decide) (by decide)
  have e65' : S1.2 65 f = nI done.length := by rw [hS1, md_w_k (by decide), md_w_k (by decide), md_w_s]
  have e66' : S1.2 66 f = nI r := by rw [hS1, md_w_k (by decide), md_w_s]
  have e67' : S1.2 67 f = nI r := by rw [hS1]; exact md_w_s
  obtain ⟨S2, b1, b2, b3, b4, b5, b6, b7⟩ := e_j195 (N := N) hf (hS.f f1 (fun q z => by simp at z; omega)) hs ((f1 60 (by decide)).1.trans h60) ((f1 61 (by decide)).1.trans h61) hG (by rw [(f1 64 (by decide)).2]; exact a2)
  have hst : mo_step N S = some S2 := by
    rw [st0, ← b1, hS1]
    unfold mo_stepNode_j56
    simp only [if_pos (nI_in (show f < 8 by omega) (by omega)), nI_clamp (show f < 2 ^ 31 by omega), e65, md_lx, md_w_s, md_w_k (show (72 : Nat) ≠ 65 by decide), a6.1, md_w_k (show (74 : Nat) ≠ 65 by decide), ea, if_pos (nI_in (show 300 * f + done.length < 2400 by omega) (by omega)), nI_clamp (show 300 * f + done.length < 2 ^ 31 by omega), e74]
    rw [if_neg (fun z => by
      have := (nI_eq (by omega) (by omega)).mp z
      omega)]
  have f2 : rF [60, 61, 62, 65, 66, 67, 68] S S2 := f1.tr b2 (fun q z => by simp at z ⊢; omega) (fun q z => by simp at z ⊢; omega)
  refine ⟨S2, hst, f2.mn (fun q z => by simp at z; exact KM_in (by omega) (by omega)), fun x k hx hk => ?_, fun ho => ?_⟩
  · cases hx
    refine ⟨by rw [b4, if_pos hk], b3, ⟨⟨a1.f f2 (fun q z => by simp at z; omega), ?_, ?_, ?_, ?_, a6.f f2 (by decide) (by decide), a7.f f2 (by decide) (by decide), a8⟩, b5, b6⟩, l1.tr b7 (fun _ z => z) (fun _ z => z)⟩
    · rw [(f2 64 (by decide)).2]; exact a2
    · rw [(b2 65 (by decide)).2]; exact e65'
    · rw [(b2 66 (by decide)).2]; exact e66'
    · rw [(b2 67 (by decide)).2]; exact e67'
  · rcases ho with z | ⟨x, k, z, z2⟩
    · cases z
    · cases z
      rw [b4, if_neg (by omega)]
