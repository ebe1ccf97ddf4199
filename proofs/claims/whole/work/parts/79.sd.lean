/-- one of ? ! ( and how deep it may lie -/
theorem e_opens {t : List Nat} {p ne : Nat} {Q : cQ} {td : tdL} {S : md_S} (h : rR t p Q td ne S) (hne : ne ≤ 4) :
    (ne < 4 → ∃ S', mo_opens S = some S' ∧ rR t p Q td (ne + 1) S' ∧ rF [31] S S') ∧
    (ne = 4 → ∃ S', mo_opens S = some S' ∧ rI p S' ∧ rC Q S' ∧ rPl td S' ∧ rF [7, 31] S S') := by
  unfold mo_opens mo_opens_j16
  refine ⟨fun hn => ?_, fun hn => ?_⟩
  · have n4 : ¬ S.1 31 = 4 := fun z => by
      rw [h.2.2.2] at z
      have := (nI_eq (a := ne) (b := 4) (by omega) (by omega)).mp z
      omega
    rw [if_neg n4]
    simp only [md_lx]
    have f : rF [31] S (md_p S 31 (S.1 31 + 1)) := rF.rf.p (by decide)
    refine ⟨_, rfl, ⟨h.1.f f (by decide) (by decide) (by decide) (by decide), h.2.1.f f (fun k h1 h2 h3 _ z => by simp at z; omega), h.2.2.1.f f (by decide) (by decide) (by decide) (by decide), ?_⟩, f⟩
    rw [md_p1, if_pos rfl, h.2.2.2, nI_1]
  · rw [if_pos (by rw [h.2.2.2, hn]; rfl), e_fail h.1.2.2]
    simp only [md_cs, md_lx]
    have f : rF [7, 31] S (md_p (md_p S 7 (S.1 6)) 31 ((md_p S 7 (S.1 6)).1 31 + 1)) := (rF.rf.p (by decide)).p (by decide)
    refine ⟨_, rfl, ?_, h.2.1.f f (fun k h1 h2 h3 _ z => by simp at z; omega), h.2.2.1.f f (by decide) (by decide) (by decide) (by decide), f⟩
    unfold rI
    rw [md_p1, if_neg (by decide), md_p1, if_pos rfl]; exact h.1.2.1
theorem TSl {t : List Nat} (ht : tOk t) {N nv : Nat} (hN : 161 ≤ N) (hnv : nv ≤ 4) (hP : PT t N nv) (hTH : TH t N nv) (hlo : ∀ m, nv = m + 1 → TS t N m ∧ AN t N m) : TS t N nv := by
  have h160 := ht.1
  intro p Q c td S hR hc hE htd hp
  have hno := hE.no (by omega)
  have hnp := hE.np (by omega) (by omega)
  have hR0 := hR.pop
  obtain ⟨S0, hS0⟩ : ∃ S0, S0 = md_p S 55 (nI td.length) := ⟨_, rfl⟩
  have hst : ∀ n, qL N (n + 1) S = md_c (mo_readTest (nI c) S0) fun S' => qL N n S' := fun n => by
    rw [qL_st hR.1.2.2 hR.2.2.1, rqp9, hS0]
  have f0 : rF KR S S0 := by
    rw [hS0]
    exact rF.rf.p (by decide)
  rw [← hS0] at hR0
  obtain ⟨z1, z2, z3, z4, z5⟩ := hE
  have ill : ∀ {w : Nat} {S' : md_S}, mo_readTest (nI c) S0 = some S' → rI w S' → w < 1000 → rF KR S0 S' → baR t N p S w 40 := fun {w S'} a b d f => by
    refine ⟨2, S', by omega, fun n => ?_, b, d, f0.tr f (fun _ z => z) (fun _ z => z)⟩
    rw [show n + 2 = (n + 1) + 1 from rfl, hst, a]
    exact qL_ill hN b d
  have unf : mo_readTest (nI c) S0 = (if lk t p = 33 then md_c (mo_opens S0) fun S16 => md_c (mo_push 10 (nI c) 0 (md_p S16 6 (S16.1 6 + 1))) fun S34 => mo_push 9 (nI c) 0 S34
      else if lk t p = 40 then md_c (mo_opens S0) fun S55 => md_c (mo_push 11 0 0 (md_p S55 6 (S55.1 6 + 1))) fun S73 => mo_push 3 (nI c) 0 S73
      else if lk t p = 64 then mo_readTest_j98 (nI c) (aT t p) S0 else if lk t p = 36 then mo_readTest_j98 (nI c) (aT t p) S0
      else md_c (mo_push 13 (nI c) 0 S0) fun S137 => mo_push 14 (nI c) 0 S137) := by
    unfold mo_readTest
    rw [e_atp hR0.1 ht (by omega)]
    simp only [md_bs, aT_33 ht, aT_40 ht, aT_64 ht, aT_36 ht, md_ci, md_lx]
  rw [qLv_eq]
  show (∀ h p', qTst t (loV t nv) p = .inl (h, p') → _) ∧ (∀ w, qTst t (loV t nv) p = .inr w → _)
  unfold qTst
  have opI : ∀ {x y : Int32} {a b : Int32}, nv = 0 → (mo_readTest (nI c) S0 = md_c (mo_opens S0) fun S16 => md_c (mo_push x a 0 (md_p S16 6 (S16.1 6 + 1))) fun S34 => mo_push y b 0 S34) → baR t N p S p 40 := fun {x y a b} h0 e => by
    obtain ⟨S1, a1, a2, a3, a4, a5⟩ := (e_opens hR0 (by omega)).2 (by omega)
    have f1 : rF [6] S1 (md_p S1 6 (S1.1 6 + 1)) := rF.rf.p (by decide)
    obtain ⟨S2, b1, b2, b3⟩ := e_push (x := x) (y := a) (z := 0) (a4.f f1 (by decide) (by decide) (by decide) (by decide)) (by omega)
    obtain ⟨S3, c1, c2, c3⟩ := e_push (x := y) (y := b) (z := 0) b2 (by simp; omega)
    rw [a1] at e
    simp only [md_cs] at e
    rw [b1] at e
    simp only [md_cs] at e
    rw [c1] at e
    refine ill e ?_ (by omega) ((((a5.mn (K := KR) (by decide)).tr f1 (fun _ z => z) (by decide)).tr b3 (fun _ z => z) (by decide)).tr c3 (fun _ z => z) (by decide))
    unfold rI
    rw [(c3 7 (by decide)).1, (b3 7 (by decide)).1, (f1 7 (by decide)).1]; exact a2
  have opG : ∀ {x y : Int32} {a b : Int32} {m : Nat}, nv = m + 1 → (mo_readTest (nI c) S0 = md_c (mo_opens S0) fun S16 => md_c (mo_push x a 0 (md_p S16 6 (S16.1 6 + 1))) fun S34 => mo_push y b 0 S34) → ∃ S3, (∀ n, qL N (n + 1) S = qL N n S3) ∧ rR t (p + 1) Q ((y, b, 0) :: (x, a, 0) :: td) (4 - m) S3 ∧ rF KR S S3 := fun {x y a b m} h0 e => by
    obtain ⟨S1, a1, a2, a3⟩ := (e_opens hR0 (by omega)).1 (by omega)
    have f1 : rF [6] S1 (md_p S1 6 (S1.1 6 + 1)) := rF.rf.p (by decide)
    obtain ⟨S2, b1, b2, b3⟩ := a2.i.push (x := x) (y := a) (z := 0) (by omega)
    obtain ⟨S3, c1, c2, c3⟩ := b2.push (x := y) (y := b) (z := 0) (by simp; omega)
    rw [a1] at e
    simp only [md_cs] at e
    rw [b1] at e
    simp only [md_cs] at e
    rw [c1] at e
    refine ⟨S3, fun n => ?_, ?_, (((f0.tr a3 (fun _ z => z) (by decide)).tr f1 (fun _ z => z) (by decide)).tr b3 (fun _ z => z) (by decide)).tr c3 (fun _ z => z) (by decide)⟩
    · rw [hst, e]; rfl
    · rw [show 4 - m = 4 - nv + 1 by omega]; exact c2
  by_cases c33 : lk t p = 33
  · rw [if_pos c33] at unf ⊢
    have hlt := lk_lt c33 (by decide)
    cases nv with
    | zero =>
      refine ⟨fun h p' hq => (nomatch hq), fun w' hq => ?_⟩
      cases hq
      exact opI rfl unf
    | succ m =>
      obtain ⟨S3, a1, a2, a3⟩ := opG (m := m) rfl unf
      obtain ⟨g1, g2⟩ := (hlo m rfl).1 (p + 1) Q c ((10, nI c, 0) :: td) S3 a2 hc ⟨by omega, by omega, by omega, by omega, by omega⟩ (by simp; omega) (by omega)
      show (∀ h p', rB ((qLv t m).1 (p + 1)) _ = _ → _) ∧ (∀ w, rB ((qLv t m).1 (p + 1)) _ = _ → _)
      cases hr : (qLv t m).1 (p + 1) with
      | inr w =>
        refine ⟨fun h p' hq => (nomatch hq), fun w' hq => ?_⟩
        cases hq
        exact (g2 w hr).of (k := 1) (by omega) a1 a3
      | inl q =>
        obtain ⟨d, p1⟩ := q
        refine ⟨fun h p' hq => ?_, fun w' hq => (nomatch hq)⟩
        cases hq
        obtain ⟨Q1, ⟨k, S5, k1, k2, k3, k4⟩, x1, x2, x3, x4⟩ := g1 d p1 hr
        obtain ⟨kp, ol, hol, sem, ok⟩ := x4
        have hc1 : c < (qc Q1).1 := Nat.lt_of_lt_of_le hc kp.1.2.2.2.1
        obtain ⟨i1, i2, i3, i4, i5⟩ := x3
        have ho1 : (qo Q1).1 < 170 := by omega
        have hR6 : rR t p1 Q1 td (4 - (m + 1) + 1) (md_p S5 55 (nI td.length)) := by
          rw [show 4 - (m + 1) + 1 = 4 - m by omega]; exact k3.pop
        obtain ⟨S6, u1, u2, u3⟩ := hR6.down.op (c := c) (x2 := 8) (x3 := 0) (x4 := 0) hc1 ho1
        refine ⟨nOp Q1 c (8, 0, 0), ⟨1 + (k + 1), S6, by omega, fun n => ?_, u2, (((a3.tr k4 (fun _ z => z) (fun _ z => z)).p (by decide)).p (by decide)).tr u3 (fun _ z => z) (by decide)⟩, by omega, x2, ⟨by show 5 * (qp Q1).1 + _ ≤ _; omega, by show 13 * (qc Q1).1 + _ + _ ≤ _; omega, by show (qg Q1).1 + _ ≤ _; omega, by show (qk Q1).1 + _ ≤ _; omega, by show (qo Q1).1 + 1 + _ ≤ _; omega⟩, kp.tr kp_op (fun b z => (nomatch z)) (fun b z => (nomatch z)) (fun b z _ => z), ol ++ [(qo Q1).1], ?_, fun X hX f hf D n st => ?_, fun X hX hL => okE_u ((ok X (hX.kp (kp_op (c := c) (o := (8, 0, 0))) kp.1 (fun b z => (nomatch z)) (fun b z => (nomatch z)) (fun b z => by cases z; exact hc)) ((kp_op (c := c) (o := (8, 0, 0))).1.tr hL)).mn (by omega) (by omega)) ((hX.2.2.2.2 (qo Q1).1 kp.1.2.2.2.2 (Nat.lt_succ_self _)).trans updL_s) (Or.inr rfl)⟩
        · rw [show n + (1 + (k + 1)) = ((n + 1) + k) + 1 by omega, a1, k2, qL_st k3.1.2.2 k3.2.2.1]
          simp only [rqe10]
          rw [u1]
          rfl
        · show updL (qc Q1).2 c ((qc Q1).2 c ++ [(qo Q1).1]) c = _
          rw [updL_s, hol, List.append_assoc]
        · have eo : (qo X).2 (qo Q1).1 = (8, 0, 0) := (hX.2.2.2.2 (qo Q1).1 kp.1.2.2.2.2 (Nat.lt_succ_self _)).trans updL_s
          have hX1 : agr Q Q1 X := hX.kp (kp_op (c := c) (o := (8, 0, 0))) kp.1 (fun b z => (nomatch z)) (fun b z => (nomatch z)) (fun b z => by cases z; exact hc)
          rw [opsE_app, sem X hX1 f (by omega), eB_a]
          unfold notR
          rw [eB_a]
          congr 1
          funext v
          rw [eB_s, eB_s]
          show eB (opE t (evP t X f) ((qo X).2 (qo Q1).1) D n (tru v :: st)) (fun st' => some (st', 0)) = _
          rw [eB_p, eo]
          cases v <;> rfl
  · rw [if_neg c33] at unf ⊢
    by_cases c40 : lk t p = 40
    · rw [if_pos c40] at unf ⊢
      have hlt := lk_lt c40 (by decide)
      cases nv with
      | zero =>
        refine ⟨fun h p' hq => (nomatch hq), fun w' hq => ?_⟩
        cases hq
        exact opI rfl unf
      | succ m =>
        obtain ⟨S3, a1, a2, a3⟩ := opG (m := m) rfl unf
        obtain ⟨g1, g2⟩ := (hlo m rfl).2 (p + 1) Q c ((11, 0, 0) :: td) S3 a2 hc ⟨by omega, by omega, by omega, by omega, by omega⟩ (by simp; omega) (by omega)
        show (∀ h p', rB (qAny t (qLv t m).1 (p + 1)) _ = _ → _) ∧ (∀ w, rB (qAny t (qLv t m).1 (p + 1)) _ = _ → _)
        cases hr : qAny t (qLv t m).1 (p + 1) with
        | inr w =>
          refine ⟨fun h p' hq => (nomatch hq), fun w' hq => ?_⟩
          cases hq
          exact (g2 w hr).of (k := 1) (by omega) a1 a3
        | inl q =>
          obtain ⟨d, p1⟩ := q
          obtain ⟨Q1, ⟨k, S5, k1, k2, k3, k4⟩, x1, x2, x3, x4⟩ := g1 d p1 hr
          obtain ⟨kp, ol, hol, sem, ok⟩ := x4
          obtain ⟨i1, i2, i3, i4, i5⟩ := x3
          have hR6 : rR t p1 Q1 td (4 - (m + 1) + 1) (md_p S5 55 (nI td.length)) := by
            rw [show 4 - (m + 1) + 1 = 4 - m by omega]; exact k3.pop
          have f6 : rF KR S (md_p (md_p S5 55 (nI td.length)) 31 ((md_p S5 55 (nI td.length)).1 31 - 1)) := ((a3.tr k4 (fun _ z => z) (fun _ z => z)).p (by decide)).p (by decide)
          have hs6 : ∀ n, qL N (n + (1 + (k + 1))) S = md_c (mo_need 41 (md_p (md_p S5 55 (nI td.length)) 31 ((md_p S5 55 (nI td.length)).1 31 - 1))) fun S' => qL N n S' := fun n => by
            rw [show n + (1 + (k + 1)) = ((n + 1) + k) + 1 by omega, a1, k2, qL_st k3.1.2.2 k3.2.2.1]
            simp only [rqe11]
          show (∀ h p', rB (exC t 41 p1) _ = _ → _) ∧ (∀ w, rB (exC t 41 p1) _ = _ → _)
          unfold exC
          rcases hR6.down.need ht (c := 41) x2 (by decide) (by decide) with ⟨e, S6, u1, u2, u3⟩ | ⟨e, S6, u1, u2, u4, u3⟩
          · rw [if_pos e]
            refine ⟨fun h p' hq => ?_, fun w' hq => (nomatch hq)⟩
            cases hq
            have hlt2 := lk_lt e (by decide)
            refine ⟨Q1, ⟨1 + (k + 1), S6, by omega, fun n => ?_, u2, f6.tr u3 (fun _ z => z) (by decide)⟩, by omega, by omega, ⟨by omega, by omega, by omega, by omega, by omega⟩, kp, ol, hol, fun X hX f hf D n st => sem X hX f (by omega) D n st, fun X hX hL => (ok X hX hL).mn (by omega) (by omega)⟩
            rw [hs6, show (41 : Int32) = nI 41 from rfl, u1]
            rfl
          · rw [if_neg e]
            refine ⟨fun h p' hq => (nomatch hq), fun w' hq => ?_⟩
            cases hq
            refine ⟨1 + (1 + (k + 1)), S6, by omega, fun n => ?_, u2, by omega, f6.tr u3 (fun _ z => z) (by decide)⟩
            rw [← Nat.add_assoc, hs6, show (41 : Int32) = nI 41 from rfl, u1]
            exact qL_ill hN u2 (by omega)
    · rw [if_neg c40] at unf ⊢
      by_cases cpt : isPt t p
      · rw [if_pos cpt]
        -- a path
        have hj : ∃ S3, (∀ n, qL N (n + 1) S = qL N n S3) ∧ rR t (p + 1) (nPath Q p (lk t p == 36)) ((0, nI (qp Q).1, 0) :: (12, nI c, nI (qp Q).1) :: td) (4 - nv) S3 ∧ rF KR S S3 := by
          have good : ∀ rt : Bool, mo_readTest (nI c) S0 = mo_readTest_j110 (nI c) (bI rt) S0 → ∃ S3, (∀ n, qL N (n + 1) S = qL N n S3) ∧ rR t (p + 1) (nPath Q p rt) ((0, nI (qp Q).1, 0) :: (12, nI c, nI (qp Q).1) :: td) (4 - nv) S3 ∧ rF KR S S3 := fun rt e => by
            unfold mo_readTest_j110 at e
            obtain ⟨S1, a1, a2, a3⟩ := hR0.path (rt := rt) hnp
            obtain ⟨S2, b1, b2, b3⟩ := a2.push (x := 12) (y := nI c) (z := nI (qp Q).1) (by omega)
            obtain ⟨S3, c1, c2, c3⟩ := b2.push (x := 0) (y := nI (qp Q).1) (z := 0) (by simp; omega)
            rw [a1] at e
            simp only [md_bs] at e
            rw [b1] at e
            simp only [md_cs] at e
            rw [c1] at e
            refine ⟨S3, fun n => ?_, c2, ((f0.tr a3 (fun _ z => z) (by decide)).tr b3 (fun _ z => z) (by decide)).tr c3 (fun _ z => z) (by decide)⟩
            rw [hst, e]; rfl
          have cpt' : lk t p = 64 ∨ lk t p = 36 := cpt
          have ej : mo_readTest_j98 (nI c) (aT t p) S0 = if lk t p = 36 then mo_readTest_j110 (nI c) 1 S0 else mo_readTest_j110 (nI c) 0 S0 := by
            unfold mo_readTest_j98
            simp only [aT_36 ht]
          rcases cpt' with e | e
          · rw [show (lk t p == 36) = false by rw [e]; rfl]
            refine good false ?_
            rw [unf, if_pos e, ej, if_neg (by omega)]
            rfl
          · rw [show (lk t p == 36) = true by rw [e]; rfl]
            refine good true ?_
            rw [unf, if_neg (by omega), if_pos e, ej, if_pos e]
            rfl
        obtain ⟨S4, hs4, w2, f4⟩ := hj
        obtain ⟨g1, g2⟩ := hP p Q ((12, nI c, nI (qp Q).1) :: td) S4 (lk t p == 36) w2 rfl cpt ⟨by omega, by omega, by omega, by omega, by omega⟩ (by simp; omega)
        have e21 : (qLv t nv).2.1 p = qPath t (loV t nv) p := by rw [qLv_eq]
        rw [e21] at g1 g2
        cases hr2 : qPath t (loV t nv) p with
        | inr w =>
          refine ⟨fun h p' hq => (nomatch hq), fun w' hq => ?_⟩
          cases hq
          exact (g2 w hr2).of (k := 1) (by omega) hs4 f4
        | inl q =>
          obtain ⟨d1, p2⟩ := q
          obtain ⟨Q1, ⟨k, S5, k1, k2, k3, k4⟩, x1, x2, ⟨⟨i1, i2, i3, i4, i5⟩, i6⟩, x4⟩ := g1 d1 p2 hr2
          obtain ⟨kp, xa, xb, xc, xd, xe, xl, sem, okp⟩ := x4
          have hc1 : c < (qc Q1).1 := Nat.lt_of_lt_of_le hc kp.1.2.2.2.1
          have ho1 : (qo Q1).1 < 170 := by omega
          have hol : (qc Q1).2 c = (qc Q).2 c := kp.2.2.2.2.1 c hc (fun z => nomatch z)
          have hR6 := k3.pop
          have f5 : rF KR S (md_p S5 55 (nI td.length)) := (f4.tr k4 (fun _ z => z) (fun _ z => z)).p (by decide)
          have hs6 : ∀ n, qL N (n + (1 + (k + 1))) S = md_c (mo_readTestPath N (nI c) (nI (qp Q).1) (md_p S5 55 (nI td.length))) fun S' => qL N n S' := fun n => by
            rw [show n + (1 + (k + 1)) = ((n + 1) + k) + 1 by omega, hs4, k2, qL_st k3.1.2.2 k3.2.2.1]
            simp only [rqp12]
          obtain ⟨S6, hS6⟩ : ∃ S6, S6 = md_p S5 55 (nI td.length) := ⟨_, rfl⟩
          rw [← hS6] at hR6 f5 hs6
          have utp : mo_readTestPath N (nI c) (nI (qp Q).1) S6 = if lk t p2 = 61 ∨ lk t p2 = 33 ∨ lk t p2 = 60 ∨ lk t p2 = 62 then mo_readTestPath_j33 N (nI c) (nI (qp Q).1) S6 else mo_emit (nI c) 0 (nI (qp Q).1) 0 S6 := by
            unfold mo_readTestPath
            rw [e_atp hR6.1 ht (by omega)]
            simp only [md_bs, aT_61 ht, aT_33 ht, aT_60 ht, aT_62 ht, md_ci]
            by_cases q1 : lk t p2 = 61
            · rw [if_pos q1, if_pos (Or.inl q1)]
            · rw [if_neg q1]
              by_cases q2 : lk t p2 = 33
              · rw [if_pos q2, if_pos (Or.inr (Or.inl q2))]
              · rw [if_neg q2]
                by_cases q3 : lk t p2 = 60
                · rw [if_pos q3, if_pos (Or.inr (Or.inr (Or.inl q3)))]
                · rw [if_neg q3]
                  by_cases q4 : lk t p2 = 62
                  · rw [if_pos q4, if_pos (Or.inr (Or.inr (Or.inr q4)))]
                  · rw [if_neg q4, if_neg (by omega)]
          have eop : ∀ {o1 : Int32} {X : cQ}, agr Q (nOp Q1 c (o1, nI (qp Q).1, 0)) X → (qo X).2 (qo Q1).1 = (o1, nI (qp Q).1, 0) ∧ agr Q Q1 X := fun {o1 X} hX => ⟨(hX.2.2.2.2 (qo Q1).1 kp.1.2.2.2.2 (Nat.lt_succ_self _)).trans updL_s, hX.kp (kp_op (c := c) (o := (o1, nI (qp Q).1, 0))) kp.1 (fun b z => (nomatch z)) (fun b z => (nomatch z)) (fun b z => by cases z; exact hc)⟩
          show (∀ h p', (if lk t p2 = 61 ∨ lk t p2 = 33 ∨ lk t p2 = 60 ∨ lk t p2 = 62 then _ else _) = _ → _) ∧ (∀ w, (if lk t p2 = 61 ∨ lk t p2 = 33 ∨ lk t p2 = 60 ∨ lk t p2 = 62 then _ else _) = _ → _)
          by_cases rel : lk t p2 = 61 ∨ lk t p2 = 33 ∨ lk t p2 = 60 ∨ lk t p2 = 62
          · rw [if_pos rel]
            rw [if_pos rel] at utp
            unfold mo_readTestPath_j33 at utp
            simp only [md_ci] at utp
            obtain ⟨m1, m2⟩ := e_must (N := N) hR6 xa xl hN
            by_cases es : d1.2.1 = true
            · rw [if_pos es]
              rw [m1 (xd.trans es)] at utp
              simp only [md_cs] at utp
              obtain ⟨S7, u1, u2, u3⟩ := hR6.op (c := c) (x2 := 1) (x3 := nI (qp Q).1) (x4 := 0) hc1 ho1
              obtain ⟨S8, v1, v2, v3⟩ := u2.push (x := 13) (y := nI c) (z := 0) (by omega)
              rw [u1] at utp
              simp only [md_cs] at utp
              rw [v1] at utp
              have f8 : rF KR S S8 := (f5.tr u3 (fun _ z => z) (by decide)).tr v3 (fun _ z => z) (by decide)
              have hs8 : ∀ n, qL N (n + (1 + (k + 1))) S = qL N n S8 := fun n => by
                rw [hs6, utp]; rfl
              obtain ⟨j1, j2⟩ := CMl ht hN hTH (pthV d1.1) p2 (nOp Q1 c (1, nI (qp Q).1, 0)) c td S8 v2 hc1 ⟨by show 5 * (qp Q1).1 ≤ _; omega, by show 13 * (qc Q1).1 ≤ _; omega, by show (qg Q1).1 ≤ _; omega, by show (qk Q1).1 ≤ _; omega, by show (qo Q1).1 + 1 ≤ _; omega⟩ (by omega) x2
              refine ⟨fun d p' hq => ?_, fun w hq => ?_⟩
              · obtain ⟨Q2, ⟨k2', S9, w1, w2', w3, w4⟩, n1, n2, ⟨m1', m2', m3', m4', m5'⟩, n4, ol2, r, h2, hd, hol2, ok2, sem2⟩ := j1 d p' hq
                have m1'' : 5 * (qp Q2).1 + 2 * p2 ≤ 2 * p' + 5 * (qp Q1).1 + 1 := m1'
                have m2'' : 13 * (qc Q2).1 + 4 * p2 + 4 ≤ 4 * p' + 13 * (qc Q1).1 := m2'
                have m3'' : (qg Q2).1 + p2 ≤ (qg Q1).1 + p' := m3'
                have m4'' : (qk Q2).1 + p2 ≤ (qk Q1).1 + p' := m4'
                have m5'' : (qo Q2).1 + p2 ≤ (qo Q1).1 + 1 + p' := m5'
                refine ⟨Q2, ⟨k2' + (1 + (k + 1)), S9, by omega, fun n => ?_, w3, f8.tr w4 (fun _ z => z) (fun _ z => z)⟩, by omega, n2, ⟨by omega, by omega, by omega, by omega, by omega⟩, ?_, [(qo Q1).1] ++ ol2, ?_, fun X hX f hf D n st => ?_, fun X hX hL => ?_⟩
                · rw [← Nat.add_assoc, hs8, w2']
                · exact ((kp.wk (cc := some c)).tr (kp_op (c := c) (o := (1, nI (qp Q).1, 0))) (fun b z => (nomatch z)) (fun b z => (nomatch z)) (fun b z _ => z)).tr n4 (fun b z => (nomatch z)) (fun b z => (nomatch z)) (fun b z _ => z)
                · rw [hol2]
                  show updL (qc Q1).2 c ((qc Q1).2 c ++ [(qo Q1).1]) c ++ ol2 = _
                  rw [updL_s, hol]
                  simp
                · have hX2 : agr (nOp Q1 c (1, nI (qp Q).1, 0)) Q2 X := hX.sub (kp.1.tr (kp_op (c := c) (o := (1, nI (qp Q).1, 0))).1) leQ.rf agr.rf
                  have hX1 : agr Q (nOp Q1 c (1, nI (qp Q).1, 0)) X := hX.kp n4 (kp.1.tr (kp_op (c := c) (o := (1, nI (qp Q).1, 0))).1) (fun b z => (nomatch z)) (fun b z => (nomatch z)) (fun b z => by cases z; exact hc)
                  obtain ⟨eo, hX0⟩ := eop hX1
                  rw [opsE_app, hd]
                  show eB (eB (opE t (evP t X f) ((qo X).2 (qo Q1).1) D n st) fun st' => some (st', 0)) _ = _
                  rw [eB_p, eo]
                  unfold opE cmpR pthV
                  simp only [nI_clamp (show (qp Q).1 < 2 ^ 31 by omega)]
                  rw [sem X hX0 f hf]
                  simp only [if_neg (show ¬ ((1 : Int32) = 0) by decide), if_true]
                  rw [eB_a, eB_a, eB_a]
                  congr 1
                  funext row
                  rw [eB_s, eB_s, eB_a, sem2 X hX2 f hf]
                  congr 1
                · have hX2 : agr (nOp Q1 c (1, nI (qp Q).1, 0)) Q2 X := hX.sub (kp.1.tr (kp_op (c := c) (o := (1, nI (qp Q).1, 0))).1) leQ.rf agr.rf
                  have hX1 : agr Q (nOp Q1 c (1, nI (qp Q).1, 0)) X := hX.kp n4 (kp.1.tr (kp_op (c := c) (o := (1, nI (qp Q).1, 0))).1) (fun b z => (nomatch z)) (fun b z => (nomatch z)) (fun b z => by cases z; exact hc)
                  obtain ⟨eo, hX0⟩ := eop hX1
                  have hL1 : leQ Q1 X := (kp_op (c := c) (o := (1, nI (qp Q).1, 0))).1.tr (n4.1.tr hL)
                  have k1 : okE t nv X [(qo Q1).1] 1 := okE_1 eo (Or.inl ⟨show (1 : Int32) = 0 ∨ (1 : Int32) = 1 ∨ (1 : Int32) = 2 by decide, (qp Q).1, hnp, rfl, okP_mn (okp X hX0 hL1) (by omega)⟩) (show ¬ ((1 : Int32) = 3 ∨ (1 : Int32) = 8) by decide) (show ¬ ((1 : Int32) = 7 ∨ (1 : Int32) = 9 ∨ (1 : Int32) = 10) by decide) (Nat.le_refl _)
                  have k2 := ok2 X hX2 hL
                  refine ⟨fun n hn => ?_, fun o ho => ?_⟩
                  · rw [okL_app (k1.1 n (by omega))]
                    exact k2.1 n (by omega)
                  · rcases List.mem_append.mp ho with z | z
                    · exact k1.2 o z
                    · exact k2.2 o z
              · exact (j2 w hq).of (k := 1 + (k + 1)) (by omega) hs8 f8
            · rw [if_neg es]
              refine ⟨fun h p' hq => (nomatch hq), fun w' hq => ?_⟩
              cases hq
              obtain ⟨S7, y1, y2, y3⟩ := m2 (xd.trans (by simpa using es))
              rw [xc] at y2
              obtain ⟨S8, x, y', z⟩ := e_emit (x2 := 1) (x3 := nI (qp Q).1) (x4 := 0) (hR6.2.1.f y3 (fun k h1 h2 _ _ z => by simp at z; omega)) hc1 ho1
              have ff : rF ([7] ++ [30, 49, 50, 51, 52, 53, 54]) S6 S8 := y3.tr z (by decide) (by decide)
              obtain ⟨S9, v1, v2, v3⟩ := e_push (x := 13) (y := nI c) (z := 0) (hR6.2.2.1.f ff (by decide) (by decide) (by decide) (by decide)) (by omega)
              rw [y1] at utp
              simp only [md_cs] at utp
              rw [x] at utp
              simp only [md_cs] at utp
              rw [v1] at utp
              have hi : rI p S9 := by unfold rI; rw [(v3 7 (by decide)).1, (z 7 (by decide)).1]; exact y2
              refine ⟨1 + (1 + (k + 1)), S9, by omega, fun n => ?_, hi, by omega, (f5.tr ff (fun _ z => z) (by decide)).tr v3 (fun _ z => z) (by decide)⟩
              rw [← Nat.add_assoc, hs6, utp]
              exact qL_ill hN hi (by omega)
          · rw [if_neg rel]
            rw [if_neg rel] at utp
            refine ⟨fun h p' hq => ?_, fun w' hq => (nomatch hq)⟩
            cases hq
            obtain ⟨S7, u1, u2, u3⟩ := hR6.op (c := c) (x2 := 0) (x3 := nI (qp Q).1) (x4 := 0) hc1 ho1
            rw [u1] at utp
            refine ⟨nOp Q1 c (0, nI (qp Q).1, 0), ⟨1 + (k + 1), S7, by omega, fun n => ?_, u2, f5.tr u3 (fun _ z => z) (by decide)⟩, x1, x2, ⟨by show 5 * (qp Q1).1 + _ ≤ _; omega, by show 13 * (qc Q1).1 + _ + _ ≤ _; omega, by show (qg Q1).1 + _ ≤ _; omega, by show (qk Q1).1 + _ ≤ _; omega, by show (qo Q1).1 + 1 + _ ≤ _; omega⟩, ((kp.wk (cc := some c)).tr kp_op (fun b z => (nomatch z)) (fun b z => (nomatch z)) (fun b z _ => z)), [(qo Q1).1], ?_, fun X hX f hf D n st => ?_, fun X hX hL => ?_⟩
            · rw [hs6, utp]; rfl
            · show updL (qc Q1).2 c ((qc Q1).2 c ++ [(qo Q1).1]) c = _
              rw [updL_s, hol]
            · obtain ⟨eo, hX0⟩ := eop hX
              show eB (opE t (evP t X f) ((qo X).2 (qo Q1).1) D n st) (fun st' => some (st', 0)) = _
              rw [eB_p, eo]
              unfold opE findR
              simp only [nI_clamp (show (qp Q).1 < 2 ^ 31 by omega)]
              rw [sem X hX0 f hf]
              simp only [if_true]
              rw [eB_a]
              simp only [eB_s]
            · obtain ⟨eo, hX0⟩ := eop hX
              exact okE_1 eo (Or.inl ⟨show (0 : Int32) = 0 ∨ (0 : Int32) = 1 ∨ (0 : Int32) = 2 by decide, (qp Q).1, hnp, rfl, okP_mn (okp X hX0 ((kp_op (c := c) (o := (0, nI (qp Q).1, 0))).1.tr hL)) (by omega)⟩) (show ¬ ((0 : Int32) = 3 ∨ (0 : Int32) = 8) by decide) (show ¬ ((0 : Int32) = 7 ∨ (0 : Int32) = 9 ∨ (0 : Int32) = 10) by decide) (by omega)
      · rw [if_neg cpt]
        rw [if_neg (fun z => cpt (Or.inl z)), if_neg (fun z => cpt (Or.inr z))] at unf
        obtain ⟨S1, a1, a2, a3⟩ := hR0.push (x := 13) (y := nI c) (z := 0) (by omega)
        obtain ⟨S2, b1, b2, b3⟩ := a2.push (x := 14) (y := nI c) (z := 0) (by simp; omega)
        rw [a1] at unf
        simp only [md_cs] at unf
        rw [b1] at unf
        have f2 : rF KR S S2 := (f0.tr a3 (fun _ z => z) (by decide)).tr b3 (fun _ z => z) (by decide)
        have hs2 : ∀ n, qL N (n + 1) S = qL N n S2 := fun n => by rw [hst, unf]; rfl
        obtain ⟨g1, g2⟩ := hTH p Q c ((13, nI c, 0) :: td) S2 b2 hc ⟨by omega, by omega, by omega, by omega, by omega⟩ (by simp; omega) hp
        have e22 : (qLv t nv).2.2 p = qThg t (loV t nv) p := by rw [qLv_eq]
        rw [e22] at g1 g2
        cases hr : qThg t (loV t nv) p with
        | inr w =>
          refine ⟨fun h p' hq => (nomatch hq), fun w' hq => ?_⟩
          cases hq
          exact (g2 w hr).of (k := 1) (by omega) hs2 f2
        | inl q =>
          obtain ⟨h1, p1⟩ := q
          obtain ⟨Q1, ⟨k, S5, k1, k2, k3, k4⟩, x1, x2, ⟨i1, i2, i3, i4, i5⟩, x4⟩ := g1 h1 p1 hr
          obtain ⟨kp, ol, hol, sem, ok⟩ := x4
          have hc1 : c < (qc Q1).1 := Nat.lt_of_lt_of_le hc kp.1.2.2.2.1
          have f5 : rF KR S S5 := f2.tr k4 (fun _ z => z) (fun _ z => z)
          have hs5 : ∀ n, qL N (n + (k + 1)) S = qL N n S5 := fun n => by rw [← Nat.add_assoc, hs2, k2]
          obtain ⟨j1, j2⟩ := CMl ht hN hTH h1 p1 Q1 c td S5 k3 hc1 ⟨by omega, by omega, by omega, by omega, by omega⟩ (by omega) x2
          refine ⟨fun d p' hq => ?_, fun w hq => ?_⟩
          · obtain ⟨Q2, ⟨k2', S9, w1, w2', w3, w4⟩, n1, n2, ⟨m1', m2', m3', m4', m5'⟩, n4, ol2, r, h2, hd, hol2, ok2, sem2⟩ := j1 d p' hq
            refine ⟨Q2, ⟨k2' + (k + 1), S9, by omega, fun n => ?_, w3, f5.tr w4 (fun _ z => z) (fun _ z => z)⟩, by omega, n2, ⟨by omega, by omega, by omega, by omega, by omega⟩, kp.tr n4 (fun b z => (nomatch z)) (fun b z => (nomatch z)) (fun b z _ => z), ol ++ ol2, ?_, fun X hX f hf D n st => ?_, fun X hX hL => ?_⟩
            · rw [← Nat.add_assoc, hs5, w2']
            · rw [hol2, hol]; simp
            · have hX2 : agr Q1 Q2 X := hX.sub kp.1 leQ.rf agr.rf
              have hX1 : agr Q Q1 X := hX.kp n4 kp.1 (fun b z => (nomatch z)) (fun b z => (nomatch z)) (fun b z => by cases z; exact hc)
              rw [opsE_app, sem X hX1 f hf, eB_a, hd]
              unfold cmpR
              rw [eB_a]
              congr 1
              funext v
              rw [eB_s, eB_a, sem2 X hX2 f hf]
              congr 1
            · have hX2 : agr Q1 Q2 X := hX.sub kp.1 leQ.rf agr.rf
              have hX1 : agr Q Q1 X := hX.kp n4 kp.1 (fun b z => (nomatch z)) (fun b z => (nomatch z)) (fun b z => by cases z; exact hc)
              have k1 := ok X hX1 (n4.1.tr hL)
              have k2 := ok2 X hX2 hL
              refine ⟨fun n hn => ?_, fun o ho => ?_⟩
              · rw [okL_app (k1.1 n (by omega))]
                exact k2.1 n (by omega)
              · rcases List.mem_append.mp ho with z | z
                · exact k1.2 o z
                · exact k2.2 o z
          · exact (j2 w hq).of (k := k + 1) (by omega) hs5 f5
