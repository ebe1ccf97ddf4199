def okM (t : List Nat) (nv : Nat) (Q Q' : cQ) (ol : List Nat) : Prop := ∀ X, agr Q Q' X → leQ Q' X → (∀ n, n + 2 ≤ 15 → okL (qo X).2 ol (n + 1) = some (n + 1)) ∧ ∀ o, o ∈ ol → okO t (okP t X (nv + 1)) ((qo X).2 o)
/-- a sign and the other side -/
theorem CMl {t : List Nat} (ht : tOk t) {N nv : Nat} (hN : 161 ≤ N) (hTH : TH t N nv) (l : dThg) : ∀ (p : Nat) (Q : cQ) (c : Nat) (td : tdL) (S : md_S), rR t p Q ((13, nI c, 0) :: td) (4 - nv) S → c < (qc Q).1 → ent (4 - nv) 3 p Q → td.length + 20 * nv + 12 ≤ 400 → p ≤ t.length →
    (∀ d p', qCmp t (loV t nv) l p = .inl (d, p') → ∃ Q', gdR t N p S td (4 - nv) p' Q' 15 0 ∧ p < p' ∧ p' ≤ t.length ∧ grw 1 4 Q p Q' p' ∧ kpQ none none (some c) Q Q' ∧ ∃ ol r h2, d = cmpR r l h2 ∧ (qc Q').2 c = (qc Q).2 c ++ ol ∧ okM t nv Q Q' ol ∧ ∀ X, agr Q Q' X → ∀ f, nv + 1 ≤ f → ∀ D n x st, opsE t (evP t X f) (qo X).2 D n ol (x :: st) = eB (h2 D n) fun y => some (tru (cmpV D r x y) :: st, 0)) ∧
    (∀ w, qCmp t (loV t nv) l p = .inr w → baR t N p S w 40) := by
  have h160 := ht.1
  intro p Q c td S hR hc hE htd hp
  have hR0 := hR.pop
  have f0 : rF KR S (md_p S 55 (nI td.length)) := rF.rf.p (by decide)
  obtain ⟨S0, hS0⟩ : ∃ S0, S0 = md_p S 55 (nI td.length) := ⟨_, rfl⟩
  have hst : ∀ n, qL N (n + 1) S = md_c (mo_readRelation (nI c) S0) fun S' => qL N n S' := fun n => by
    rw [qL_st hR.1.2.2 hR.2.2.1, rqp13, hS0]
  rw [← hS0] at hR0 f0
  -- the two things that wait
  have pu : ∀ {p1 : Nat} {S1 : md_S} {r : Nat}, rR t p1 Q td (4 - nv) S1 → rF KR S S1 → ∃ S3, mo_readRelation_j149 (nI c) (nI r) S1 = some S3 ∧ rR t p1 Q ((14, nI c, 0) :: (15, nI c, nI r) :: td) (4 - nv) S3 ∧ rF KR S S3 := fun {p1 S1 r} a f => by
    unfold mo_readRelation_j149
    obtain ⟨S2, b1, b2, b3⟩ := a.push (x := 15) (y := nI c) (z := nI r) (by omega)
    obtain ⟨S3, c1, c2, c3⟩ := b2.push (x := 14) (y := nI c) (z := 0) (by simp; omega)
    rw [b1]
    simp only [md_cs]
    rw [c1]
    exact ⟨S3, rfl, c2, (f.tr b3 (fun _ z => z) (by decide)).tr c3 (fun _ z => z) (by decide)⟩
  have puI : ∀ {S1 : md_S} {w : Nat} {r : Int32}, rPl td S1 → rI w S1 → w < 1000 → rF KR S0 S1 → mo_readRelation (nI c) S0 = mo_readRelation_j149 (nI c) r S1 → baR t N p S w 40 := fun {S1 w r} a b d f e => by
    unfold mo_readRelation_j149 at e
    obtain ⟨S2, b1, b2, b3⟩ := e_push (x := 15) (y := nI c) (z := r) a (by omega)
    obtain ⟨S3, c1, c2, c3⟩ := e_push (x := 14) (y := nI c) (z := 0) b2 (by simp; omega)
    rw [b1] at e
    simp only [md_cs] at e
    rw [c1] at e
    have hi : rI w S3 := by unfold rI; rw [(c3 7 (by decide)).1, (b3 7 (by decide)).1]; exact b
    refine ⟨2, S3, by omega, fun n => ?_, hi, d, ((f0.tr f (fun _ z => z) (fun _ z => z)).tr b3 (fun _ z => z) (by decide)).tr c3 (fun _ z => z) (by decide)⟩
    rw [show n + 2 = (n + 1) + 1 from rfl, hst, e]
    exact qL_ill hN hi d
  -- behind the sign
  have go : ∀ {p1 r : Nat}, p < p1 → p1 ≤ t.length → qRel t p = .inl (r, p1) → r < 6 → (∃ S1, rR t p1 Q td (4 - nv) S1 ∧ rF KR S S1 ∧ mo_readRelation (nI c) S0 = mo_readRelation_j149 (nI c) (nI r) S1) → 
      (∀ d p', qCmp t (loV t nv) l p = .inl (d, p') → ∃ Q', gdR t N p S td (4 - nv) p' Q' 15 0 ∧ p < p' ∧ p' ≤ t.length ∧ grw 1 4 Q p Q' p' ∧ kpQ none none (some c) Q Q' ∧ ∃ ol r h2, d = cmpR r l h2 ∧ (qc Q').2 c = (qc Q).2 c ++ ol ∧ okM t nv Q Q' ol ∧ ∀ X, agr Q Q' X → ∀ f, nv + 1 ≤ f → ∀ D n x st, opsE t (evP t X f) (qo X).2 D n ol (x :: st) = eB (h2 D n) fun y => some (tru (cmpV D r x y) :: st, 0)) ∧
    (∀ w, qCmp t (loV t nv) l p = .inr w → baR t N p S w 40) := by
    intro p1 r hpp hp1 hrel hr10 ⟨S1, a1, a2, a3⟩
    obtain ⟨S3, b1, b2, b3⟩ := pu (r := r) a1 a2
    have hs3 : ∀ n, qL N (n + 1) S = qL N n S3 := fun n => by
      rw [hst, a3, b1]
      rfl
    obtain ⟨z1, z2, z3, z4, z5⟩ := hE
    obtain ⟨g1, g2⟩ := hTH p1 Q c ((15, nI c, nI r) :: td) S3 b2 hc ⟨by omega, by omega, by omega, by omega, by omega⟩ (by simp; omega) hp1
    have e22 : (qLv t nv).2.2 = qThg t (loV t nv) := by rw [qLv_eq]
    rw [e22] at g1 g2
    unfold qCmp
    rw [hrel]
    show (∀ d p', rB (qThg t (loV t nv) p1) _ = _ → _) ∧ (∀ w, rB (qThg t (loV t nv) p1) _ = _ → _)
    cases hr : qThg t (loV t nv) p1 with
    | inr w =>
      refine ⟨fun d p' hq => (nomatch hq), fun w' hq => ?_⟩
      cases hq
      exact (g2 w hr).of (k := 1) (by omega) hs3 b3
    | inl q =>
      obtain ⟨h2, p2⟩ := q
      refine ⟨fun d p' hq => ?_, fun w' hq => (nomatch hq)⟩
      cases hq
      obtain ⟨Q1, ⟨k, S5, k1, k2, k3, k4⟩, x1, x2, x3, x4⟩ := g1 h2 p2 hr
      obtain ⟨kp, ol, hol, sem, ok⟩ := x4
      have hc1 : c < (qc Q1).1 := Nat.lt_of_lt_of_le hc kp.1.2.2.2.1
      obtain ⟨i1, i2, i3, i4, i5⟩ := x3
      have ho1 : (qo Q1).1 < 170 := by omega
      obtain ⟨S6, u1, u2, u3⟩ := k3.pop.op (c := c) (x2 := 7) (x3 := nI r) (x4 := 0) hc1 ho1
      refine ⟨nOp Q1 c (7, nI r, 0), ⟨1 + (k + 1), S6, by omega, fun n => ?_, u2, ((b3.tr k4 (fun _ z => z) (fun _ z => z)).p (by decide)).tr u3 (fun _ z => z) (by decide)⟩, by omega, x2, ⟨by show 5 * (qp Q1).1 + _ ≤ _; omega, by show 13 * (qc Q1).1 + _ + _ ≤ _; omega, by show (qg Q1).1 + _ ≤ _; omega, by show (qk Q1).1 + _ ≤ _; omega, by show (qo Q1).1 + 1 + _ ≤ _; omega⟩, kp.tr kp_op (fun b z => (nomatch z)) (fun b z => (nomatch z)) (fun b z _ => z), ol ++ [(qo Q1).1], r, h2, rfl, ?_, fun X hX hL => ?_, fun X hX f hf D n x st => ?_⟩
      · rw [show n + (1 + (k + 1)) = ((n + 1) + k) + 1 by omega, hs3, k2, qL_st k3.1.2.2 k3.2.2.1]
        simp only [rqe15]
        rw [u1]
        rfl
      · show updL (qc Q1).2 c ((qc Q1).2 c ++ [(qo Q1).1]) c = _
        rw [updL_s, hol, List.append_assoc]
      · have eo : (qo X).2 (qo Q1).1 = (7, nI r, 0) := (hX.2.2.2.2 (qo Q1).1 kp.1.2.2.2.2 (Nat.lt_succ_self _)).trans updL_s
        have hX1 : agr Q Q1 X := hX.kp (kp_op (c := c) (o := (7, nI r, 0))) kp.1 (fun b z => (nomatch z)) (fun b z => (nomatch z)) (fun b z => by cases z; exact hc)
        have k1 := ok X hX1 ((kp_op (c := c) (o := (7, nI r, 0))).1.tr hL)
        refine ⟨fun n hn => ?_, fun o ho => ?_⟩
        · rw [okL_app (k1.1 (n + 1) (by omega))]
          exact okE_s (n := n) eo (Or.inl rfl)
        · rcases List.mem_append.mp ho with z | z
          · exact k1.2 o z
          · rw [List.mem_singleton.mp z, eo]
            exact Or.inr (Or.inr (Or.inr (Or.inr (Or.inr (Or.inl ⟨rfl, r, hr10, rfl⟩)))))
      · have eo : (qo X).2 (qo Q1).1 = (7, nI r, 0) := (hX.2.2.2.2 (qo Q1).1 kp.1.2.2.2.2 (Nat.lt_succ_self _)).trans updL_s
        have hX1 : agr Q Q1 X := hX.kp (kp_op (c := c) (o := (7, nI r, 0))) kp.1 (fun b z => (nomatch z)) (fun b z => (nomatch z)) (fun b z => by cases z; exact hc)
        rw [opsE_app, sem X hX1 f hf, eB_a]
        congr 1
        funext v
        rw [eB_s]
        show eB (opE t (evP t X f) ((qo X).2 (qo Q1).1) D n (v :: x :: st)) (fun st' => some (st', 0)) = _
        rw [eB_p, eo]
        unfold opE
        simp only [nI_clamp (show r < 2 ^ 31 by omega)]
        rfl
  have hr10 : ∀ r p1, qRel t p = .inl (r, p1) → r < 6 := fun r p1 h => by
    unfold qRel at h
    repeat' split at h
    all_goals first | (cases h; omega) | cases h
  have bad : ∀ {w : Nat}, qRel t p = .inr w → baR t N p S w 40 → (∀ d p', qCmp t (loV t nv) l p = .inl (d, p') → ∃ Q', gdR t N p S td (4 - nv) p' Q' 15 0 ∧ p < p' ∧ p' ≤ t.length ∧ grw 1 4 Q p Q' p' ∧ kpQ none none (some c) Q Q' ∧ ∃ ol r h2, d = cmpR r l h2 ∧ (qc Q').2 c = (qc Q).2 c ++ ol ∧ okM t nv Q Q' ol ∧ ∀ X, agr Q Q' X → ∀ f, nv + 1 ≤ f → ∀ D n x st, opsE t (evP t X f) (qo X).2 D n ol (x :: st) = eB (h2 D n) fun y => some (tru (cmpV D r x y) :: st, 0)) ∧
    (∀ w, qCmp t (loV t nv) l p = .inr w → baR t N p S w 40) := fun {w} h1 h2 => by
    unfold qCmp
    rw [h1]
    refine ⟨fun d p' hq => (nomatch hq), fun w' hq => ?_⟩
    cases hq
    exact h2
  have hT := hR0.1
  have unf : mo_readRelation (nI c) S0 = (if lk t p = 61 then mo_readRelation_j23 (nI c) (aT t p) S0 else if lk t p = 33 then mo_readRelation_j23 (nI c) (aT t p) S0 else if lk t p = 60 then mo_readRelation_j66 (nI c) (aT t p) S0 else if lk t p = 62 then mo_readRelation_j66 (nI c) (aT t p) S0 else md_c (mo_fail (S0.1 6) S0) fun S146 => mo_readRelation_j149 (nI c) 0 S146) := by
    unfold mo_readRelation
    rw [e_atp hT ht (by omega)]
    simp only [md_bs, aT_61 ht, aT_33 ht, aT_60 ht, aT_62 ht]
  -- == and !=
  have j23 : lk t p = 61 ∨ lk t p = 33 → mo_readRelation (nI c) S0 = mo_readRelation_j23 (nI c) (aT t p) S0 := fun h => by
    rw [unf]
    rcases h with h | h
    · rw [if_pos h]
    · rw [if_neg (by omega), if_pos h]
  have eqs : ∀ {r : Nat} {ch : Nat}, (lk t p = 61 ∧ r = 0) ∨ (lk t p = 33 ∧ r = 1) → (lk t (p + 1) = 61 → qRel t p = .inl (r, p + 2)) → (lk t (p + 1) ≠ 61 → qRel t p = .inr (p + 1)) → (∀ d p', qCmp t (loV t nv) l p = .inl (d, p') → ∃ Q', gdR t N p S td (4 - nv) p' Q' 15 0 ∧ p < p' ∧ p' ≤ t.length ∧ grw 1 4 Q p Q' p' ∧ kpQ none none (some c) Q Q' ∧ ∃ ol r h2, d = cmpR r l h2 ∧ (qc Q').2 c = (qc Q).2 c ++ ol ∧ okM t nv Q Q' ol ∧ ∀ X, agr Q Q' X → ∀ f, nv + 1 ≤ f → ∀ D n x st, opsE t (evP t X f) (qo X).2 D n ol (x :: st) = eB (h2 D n) fun y => some (tru (cmpV D r x y) :: st, 0)) ∧
    (∀ w, qCmp t (loV t nv) l p = .inr w → baR t N p S w 40) := by
    intro r ch hc1 h1 h2
    have hlt : p < t.length := lk_lt (rfl : lk t p = lk t p) (by omega)
    have fr : rF [6] S0 (md_p S0 6 (S0.1 6 + 1)) := rF.rf.p (by decide)
    have e23 := j23 (by omega)
    unfold mo_readRelation_j23 mo_readRelation_j50 at e23
    simp only [md_lx, aT_61 ht] at e23
    have hr : (if lk t p = 61 then mo_readRelation_j149 (nI c) 0 else mo_readRelation_j149 (nI c) 1) = mo_readRelation_j149 (nI c) (nI r) := by
      rcases hc1 with ⟨a, rfl⟩ | ⟨a, rfl⟩
      · rw [if_pos a]; rfl
      · rw [if_neg (by omega)]; rfl
    have hr2 : ∀ S1, (if lk t p = 61 then mo_readRelation_j149 (nI c) 0 S1 else mo_readRelation_j149 (nI c) 1 S1) = mo_readRelation_j149 (nI c) (nI r) S1 := fun S1 => by
      rw [← hr]
      split <;> rfl
    simp only [hr2] at e23
    rcases hR0.i.need ht (c := 61) (by omega) (by decide) (by decide) with ⟨e1, S1, a, b, f⟩ | ⟨e1, S1, a, b, d, f⟩
    · rw [show (61 : Int32) = nI 61 from rfl, a] at e23
      have hlt2 := lk_lt e1 (by decide)
      exact go (by omega) (by omega) (h1 e1) (hr10 _ _ (h1 e1)) ⟨S1, b, (f0.tr fr (fun _ z => z) (by decide)).tr f (fun _ z => z) (by decide), e23⟩
    · rw [show (61 : Int32) = nI 61 from rfl, a] at e23
      have ff : rF [6, 7] S0 S1 := fr.tr f (by decide) (by decide)
      exact bad (h2 e1) (puI (hR0.2.2.1.f ff (by decide) (by decide) (by decide) (by decide)) b (by omega) (ff.mn (by decide)) e23)
  have lts : ∀ {r0 : Nat}, (lk t p = 60 ∧ r0 = 2) ∨ (lk t p = 62 ∧ r0 = 4) → (lk t (p + 1) = 61 → qRel t p = .inl (r0 + 1, p + 2)) → (lk t (p + 1) ≠ 61 → qRel t p = .inl (r0, p + 1)) → (∀ d p', qCmp t (loV t nv) l p = .inl (d, p') → ∃ Q', gdR t N p S td (4 - nv) p' Q' 15 0 ∧ p < p' ∧ p' ≤ t.length ∧ grw 1 4 Q p Q' p' ∧ kpQ none none (some c) Q Q' ∧ ∃ ol r h2, d = cmpR r l h2 ∧ (qc Q').2 c = (qc Q).2 c ++ ol ∧ okM t nv Q Q' ol ∧ ∀ X, agr Q Q' X → ∀ f, nv + 1 ≤ f → ∀ D n x st, opsE t (evP t X f) (qo X).2 D n ol (x :: st) = eB (h2 D n) fun y => some (tru (cmpV D r x y) :: st, 0)) ∧
    (∀ w, qCmp t (loV t nv) l p = .inr w → baR t N p S w 40) := by
    intro r0 hc1 h1 h2
    have hlt : p < t.length := lk_lt (rfl : lk t p = lk t p) (by omega)
    have e66 : mo_readRelation (nI c) S0 = mo_readRelation_j66 (nI c) (aT t p) S0 := by
      rw [unf]
      rcases hc1 with ⟨a, _⟩ | ⟨a, _⟩
      · rw [if_neg (by omega), if_neg (by omega), if_pos a]
      · rw [if_neg (by omega), if_neg (by omega), if_neg (by omega), if_pos a]
    have fr : rF [6] S0 (md_p S0 6 (S0.1 6 + 1)) := rF.rf.p (by decide)
    have hT1 := hT.i
    unfold mo_readRelation_j66 mo_readRelation_j94 mo_readRelation_j111 mo_readRelation_j126 mo_readRelation_j136 at e66
    simp only [md_lx] at e66
    rw [e_atp hT1 ht (by omega)] at e66
    simp only [md_bs, aT_61 ht, aT_60 ht] at e66
    by_cases e1 : lk t (p + 1) = 61
    · rw [if_pos e1] at e66
      simp only [if_neg (show ¬ ((1 : Int32) = 0) by decide)] at e66
      have hlt2 := lk_lt e1 (by decide)
      refine go (by omega) (by omega) (h1 e1) (hr10 _ _ (h1 e1)) ⟨md_p (md_p S0 6 (S0.1 6 + 1)) 6 ((md_p S0 6 (S0.1 6 + 1)).1 6 + 1), hR0.i.i, ((f0.p (by decide)).p (by decide)), ?_⟩
      rw [e66]
      rcases hc1 with ⟨a, rfl⟩ | ⟨a, rfl⟩
      · rw [if_pos a]; rfl
      · rw [if_neg (by omega)]; rfl
    · rw [if_neg e1] at e66
      simp only [if_true] at e66
      simp only [Int32.add_zero] at e66
      refine go (by omega) (by omega) (h2 e1) (hr10 _ _ (h2 e1)) ⟨md_p S0 6 (S0.1 6 + 1), hR0.i, f0.p (by decide), ?_⟩
      rw [e66, md_pp]
      rcases hc1 with ⟨a, rfl⟩ | ⟨a, rfl⟩
      · rw [if_pos a]; rfl
      · rw [if_neg (by omega)]; rfl
  by_cases c60 : lk t p = 60
  · refine lts (Or.inl ⟨c60, rfl⟩) (fun h => ?_) (fun h => ?_)
    · unfold qRel; rw [if_pos c60, if_pos h]
    · unfold qRel; rw [if_pos c60, if_neg h]
  · by_cases c62 : lk t p = 62
    · refine lts (Or.inr ⟨c62, rfl⟩) (fun h => ?_) (fun h => ?_)
      · unfold qRel; rw [if_neg c60, if_pos c62, if_pos h]
      · unfold qRel; rw [if_neg c60, if_pos c62, if_neg h]
    · by_cases c33 : lk t p = 33
      · refine eqs (ch := 0) (Or.inr ⟨c33, rfl⟩) (fun h => ?_) (fun h => ?_)
        · unfold qRel; rw [if_neg c60, if_neg c62, if_pos c33, if_pos h]
        · unfold qRel; rw [if_neg c60, if_neg c62, if_pos c33, if_neg h]
      · by_cases c61 : lk t p = 61
        · refine eqs (ch := 0) (Or.inl ⟨c61, rfl⟩) (fun h => ?_) (fun h => ?_)
          · unfold qRel; rw [if_neg c60, if_neg c62, if_neg c33, if_pos c61, if_pos h]
          · unfold qRel; rw [if_neg c60, if_neg c62, if_neg c33, if_pos c61, if_neg h]
        · have hq : qRel t p = .inr p := by
            unfold qRel; rw [if_neg c60, if_neg c62, if_neg c33, if_neg c61]
          refine bad hq (puI (S1 := md_p S0 7 (S0.1 6)) (r := 0) (hR0.2.2.1.f (rF.rf.p (K := [7]) (by decide)) (by decide) (by decide) (by decide) (by decide)) (by unfold rI; rw [md_p1, if_pos rfl]; exact hT.2.1) (by omega) (rF.rf.p (by decide)) ?_)
          rw [unf, if_neg c61, if_neg c33, if_neg c60, if_neg c62, e_fail hT.2.2]
          rfl
