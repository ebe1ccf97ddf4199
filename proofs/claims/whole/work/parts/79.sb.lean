/-- what reads one part of a condition, waiting under a code -/
def EL (t : List Nat) (N nv e1 : Nat) (E : Int32) (rd : Rd dCnd) (sl B tb dm : Nat) : Prop := ∀ (p : Nat) (Q : cQ) (c : Nat) (td : tdL) (S : md_S), rR t p Q ((E, nI c, 0) :: td) e1 S → c < (qc Q).1 → ent e1 0 p Q → td.length + 20 * nv + tb ≤ 400 → p ≤ t.length →
  (∀ d p', rd p = .inl (d, p') → ∃ Q', gdR t N p S td e1 p' Q' sl 0 ∧ p < p' ∧ p' ≤ t.length ∧ grw 4 4 Q p Q' p' ∧ rlB t nv Q c Q' d dm) ∧ (∀ w, rd p = .inr w → baR t N p S w B)
theorem e_twice {t : List Nat} (ht : tOk t) {p ne ch : Nat} {Q : cQ} {td : tdL} {S : md_S} (h : rR t p Q td ne S) (hp : p ≤ t.length) (h0 : ch ≠ 0) (h9 : ch < 1000) :
    (lk t p ≠ ch → mo_isTwice (nI ch) S = some (0, S)) ∧
    (lk t p = ch → lk t (p + 1) = ch → ∃ S', mo_isTwice (nI ch) S = some (1, S') ∧ rR t (p + 2) Q td ne S' ∧ rF [6] S S') ∧
    (lk t p = ch → lk t (p + 1) ≠ ch → ∃ S', mo_isTwice (nI ch) S = some (1, S') ∧ rI (p + 1) S' ∧ rC Q S' ∧ rPl td S' ∧ rF [6, 7] S S') := by
  have h160 := ht.1
  unfold mo_isTwice
  rw [e_atp h.1 ht (by omega)]
  simp only [md_bs, aT_eq ht h0 h9, md_lx]
  refine ⟨fun e => by rw [if_neg e], fun e e2 => ?_, fun e e2 => ?_⟩
  · have hlt := lk_lt e h0
    rw [if_pos e]
    have f0 : rF [6] S (md_p S 6 (S.1 6 + 1)) := rF.rf.p (by decide)
    rcases h.i.need ht (c := ch) (by omega) h0 h9 with ⟨_, S', a, b, f⟩ | ⟨e3, _⟩
    · rw [a]
      exact ⟨S', rfl, b, f0.tr f (fun _ z => z) (fun _ z => z)⟩
    · exact absurd e2 e3
  · have hlt := lk_lt e h0
    rw [if_pos e]
    have f0 : rF [6] S (md_p S 6 (S.1 6 + 1)) := rF.rf.p (by decide)
    rcases h.i.need ht (c := ch) (by omega) h0 h9 with ⟨e3, _⟩ | ⟨_, S', a, b, d, f⟩
    · exact absurd e3 e2
    · rw [a]
      have ff : rF [6, 7] S S' := f0.tr f (by decide) (by decide)
      exact ⟨S', rfl, b, d, h.2.2.1.f ff (by decide) (by decide) (by decide) (by decide), ff⟩
theorem MOl {t : List Nat} (ht : tOk t) {N nv e1 : Nat} (hN : 161 ≤ N) {E M J o1 : Int32} {ch sl B tb dm : Nat} {rd : Rd dCnd} (hEl : EL t N nv e1 E rd sl B tb dm) (hB : 40 ≤ B ∧ B ≤ 41) (ho9 : o1 = 9 ∨ o1 = 10) (h0 : ch ≠ 0) (h9 : ch < 1000) (F : dS → Nat → List dCnd → Bool → eR Bool) (op : Bool → Bool → Bool)
    (hF0 : ∀ D n b, F D n [] b = some (b, 0)) (hF1 : ∀ D n c r b, F D n (c :: r) b = eB (c D n) fun b' => F D n r (op b b'))
    (hop : ∀ tq rec D n b b' st, opE tq rec (o1, 0, 0) D n (tru b' :: tru b :: st) = some (tru (op b b') :: st, 0))
    (hM : ∀ (a b : Int32) (S : md_S), mo_readPart N M a b S = md_b (mo_isTwice (nI ch) S) fun v S1 => if v = 0 then some S1 else md_c (mo_push J a 0 S1) fun S2 => mo_push E a 0 S2)
    (hJ : ∀ (a b : Int32) (S : md_S), mo_readPart N J a b S = md_c (mo_emit a o1 0 0 S) fun S1 => mo_push M a 0 S1) :
    ∀ (k p : Nat) (Q : cQ) (c : Nat) (td : tdL) (S : md_S), rR t p Q ((M, nI c, 0) :: td) e1 S → c < (qc Q).1 → ent e1 4 p Q → td.length + 20 * nv + (tb + 2) ≤ 400 → p ≤ t.length → t.length ≤ p + k →
    (∀ cs p', qMore t ch rd k p = .inl (cs, p') → ∃ Q', gdR t N p S td e1 p' Q' 0 1 ∧ p ≤ p' ∧ p' ≤ t.length ∧ grw 0 0 Q p Q' p' ∧ kpQ none none (some c) Q Q' ∧ ∃ ol, (qc Q').2 c = (qc Q).2 c ++ ol ∧ (∀ X, agr Q Q' X → leQ Q' X → (∀ n, n + 1 + dm ≤ 15 → okL (qo X).2 ol (n + 1) = some (n + 1)) ∧ ∀ o, o ∈ ol → okO t (okP t X (nv + 1)) ((qo X).2 o)) ∧ ∀ X, agr Q Q' X → ∀ f, nv + 1 ≤ f → ∀ D n b st, (opsE t (evP t X f) (qo X).2 D n ol (tru b :: st) = eB (F D n cs b) fun b' => some (tru b' :: st, 0)) ) ∧
    (∀ w, qMore t ch rd k p = .inr w → baR t N p S w 40) := by
  have h160 := ht.1
  intro k
  induction k with
  | zero =>
    intro p Q c td S hR hc hE htd hp hk
    have hR0 := hR.pop
    have hz : lk t p ≠ ch := by rw [lk_ge (by omega)]; exact fun z => h0 z.symm
    obtain ⟨g1, g2, g3⟩ := e_twice ht (ch := ch) hR0 hp h0 h9
    refine ⟨fun cs p' hq => ?_, fun w hq => (nomatch hq)⟩
    cases hq
    refine ⟨Q, ⟨1, _, by omega, fun n => ?_, hR0, rF.rf.p (by decide)⟩, Nat.le_refl _, hp, ⟨by omega, by omega, by omega, by omega, by omega⟩, kpQ.rf, [], by simp, fun X hX hL => ⟨fun n _ => rfl, fun o ho => (nomatch ho)⟩, fun X hX f hf D n b st => ?_⟩
    · rw [qL_st hR.1.2.2 hR.2.2.1]
      simp only [hM, g1 hz, md_bs, if_true, md_cs]
    · rw [hF0, eB_s]; rfl
  | succ k ih =>
    intro p Q c td S hR hc hE htd hp hk
    have hR0 := hR.pop
    have hno := hE.no (by omega)
    obtain ⟨g1, g2, g3⟩ := e_twice ht (ch := ch) hR0 hp h0 h9
    have f0 : rF KR S (md_p S 55 (nI td.length)) := rF.rf.p (by decide)
    rw [qMore]
    by_cases e : lk t p = ch
    · rw [if_pos e]
      have hlt := lk_lt e h0
      unfold exC
      by_cases e2 : lk t (p + 1) = ch
      · rw [if_pos e2]
        have hlt2 := lk_lt e2 h0
        obtain ⟨S1, a1, a2, a3⟩ := g2 e e2
        obtain ⟨S2, b1, b2, b3⟩ := a2.push (x := J) (y := nI c) (z := 0) (by omega)
        obtain ⟨S3, c1, c2, c3⟩ := b2.push (x := E) (y := nI c) (z := 0) (by simp; omega)
        have f3 : rF KR S S3 := ((f0.tr a3 (fun _ z => z) (by decide)).tr b3 (fun _ z => z) (by decide)).tr c3 (fun _ z => z) (by decide)
        have hs3 : ∀ n, qL N (n + 1) S = qL N n S3 := fun n => by
          rw [qL_st hR.1.2.2 hR.2.2.1]
          simp only [hM, a1, md_bs]
          rw [if_neg (by decide), b1]
          simp only [md_cs]
          rw [c1]
          rfl
        have hE2 : ent e1 0 (p + 2) Q := by
          obtain ⟨x1, x2, x3, x4, x5⟩ := hE
          exact ⟨by omega, by omega, by omega, by omega, by omega⟩
        obtain ⟨l1, l2⟩ := hEl (p + 2) Q c ((J, nI c, 0) :: td) S3 c2 hc hE2 (by simp; omega) (by omega)
        show (∀ cs p', rB (rd (p + 1 + 1)) _ = _ → _) ∧ (∀ w, rB (rd (p + 1 + 1)) _ = _ → _)
        cases hr : rd (p + 1 + 1) with
        | inr w =>
          refine ⟨fun cs p' hq => (nomatch hq), fun w' hq => ?_⟩
          cases hq
          exact (l2 w hr).of (k := 1) (by omega) hs3 f3
        | inl q =>
          obtain ⟨d, p1⟩ := q
          obtain ⟨Q1, ⟨k1, S4, x1, x2, x3, x4⟩, y1, y2, y3, y4⟩ := l1 d p1 hr
          obtain ⟨kp, ol, hol, sem, ok⟩ := y4
          have hc1 : c < (qc Q1).1 := Nat.lt_of_lt_of_le hc kp.1.2.2.2.1
          obtain ⟨i1, i2, i3, i4, i5⟩ := y3
          obtain ⟨z1, z2, z3, z4, z5⟩ := hE
          have ho1 : (qo Q1).1 < 170 := by omega
          have hR4 := x3.pop
          obtain ⟨S5, u1, u2, u3⟩ := hR4.op (c := c) (x2 := o1) (x3 := 0) (x4 := 0) hc1 ho1
          obtain ⟨S6, v1, v2, v3⟩ := u2.push (x := M) (y := nI c) (z := 0) (by omega)
          have f6 : rF KR S S6 := (((f3.tr x4 (fun _ z => z) (fun _ z => z)).p (by decide)).tr u3 (fun _ z => z) (by decide)).tr v3 (fun _ z => z) (by decide)
          have hs6 : ∀ n, qL N (n + (1 + (k1 + 1))) S = qL N n S6 := fun n => by
            rw [show n + (1 + (k1 + 1)) = ((n + 1) + k1) + 1 by omega, hs3, x2, qL_st x3.1.2.2 x3.2.2.1]
            simp only [hJ]
            rw [u1]
            simp only [md_cs]
            rw [v1]
            rfl
          obtain ⟨j1, j2⟩ := ih p1 (nOp Q1 c (o1, 0, 0)) c td S6 v2 hc1 ⟨by show 5 * (qp Q1).1 ≤ _; omega, by show 13 * (qc Q1).1 ≤ _; omega, by show (qg Q1).1 ≤ _; omega, by show (qk Q1).1 ≤ _; omega, by show (qo Q1).1 + 1 ≤ _; omega⟩ htd y2 (by omega)
          show (∀ cs p', rB (qMore t ch rd k p1) _ = _ → _) ∧ (∀ w, rB (qMore t ch rd k p1) _ = _ → _)
          cases hr2 : qMore t ch rd k p1 with
          | inr w =>
            refine ⟨fun cs p' hq => (nomatch hq), fun w' hq => ?_⟩
            cases hq
            exact (j2 w hr2).of (k := 1 + (k1 + 1)) (by omega) hs6 f6
          | inl q =>
            obtain ⟨cs, p2⟩ := q
            refine ⟨fun cs' p' hq => ?_, fun w' hq => (nomatch hq)⟩
            cases hq
            obtain ⟨Q2, ⟨k2, S7, w1, w2, w3, w4⟩, n1, n2, n3, n4, ol2, hol2, ok2, sem2⟩ := j1 cs p2 hr2
            obtain ⟨m1, m2, m3, m4, m5⟩ := n3
            have m1' : 5 * (qp Q2).1 + 2 * p1 ≤ 2 * p2 + 5 * (qp Q1).1 + 0 := m1
            have m2' : 13 * (qc Q2).1 + 4 * p1 + 0 ≤ 4 * p2 + 13 * (qc Q1).1 := m2
            have m3' : (qg Q2).1 + p1 ≤ (qg Q1).1 + p2 := m3
            have m4' : (qk Q2).1 + p1 ≤ (qk Q1).1 + p2 := m4
            have m5' : (qo Q2).1 + p1 ≤ (qo Q1).1 + 1 + p2 := m5
            refine ⟨Q2, ⟨k2 + (1 + (k1 + 1)), S7, by omega, fun n => ?_, w3, f6.tr w4 (fun _ z => z) (fun _ z => z)⟩, by omega, n2, ⟨by omega, by omega, by omega, by omega, by omega⟩, ?_, ol ++ [(qo Q1).1] ++ ol2, ?_, fun X hX hL => ?_, fun X hX f hf D n b st => ?_⟩
            · rw [← Nat.add_assoc, hs6, w2]
            · exact (kp.tr (kp_op (c := c) (o := (o1, 0, 0))) (fun b z => (nomatch z)) (fun b z => (nomatch z)) (fun b z _ => z)).tr n4 (fun b z => (nomatch z)) (fun b z => (nomatch z)) (fun b z _ => z)
            · rw [hol2]
              show updL (qc Q1).2 c ((qc Q1).2 c ++ [(qo Q1).1]) c ++ ol2 = _
              rw [updL_s, hol]
              simp
            · have hX2 : agr (nOp Q1 c (o1, 0, 0)) Q2 X := hX.sub (kp.1.tr (kp_op (c := c) (o := (o1, 0, 0))).1) leQ.rf agr.rf
              have hkp1 : kpQ none none (some c) Q1 Q2 := (kp_op (c := c) (o := (o1, 0, 0))).tr n4 (fun b z => (nomatch z)) (fun b z => (nomatch z)) (fun b z _ => z)
              have hX1 : agr Q Q1 X := hX.kp hkp1 kp.1 (fun b z => (nomatch z)) (fun b z => (nomatch z)) (fun b z => by cases z; exact hc)
              have eo : (qo X).2 (qo Q1).1 = (o1, 0, 0) := (hX.2.2.2.2 (qo Q1).1 kp.1.2.2.2.2 (Nat.lt_of_lt_of_le (Nat.lt_succ_self _) n4.1.2.2.2.2)).trans ((n4.2.2.2.2.2 (qo Q1).1 (Nat.lt_succ_self _)).trans updL_s)
              have k1 := ok X hX1 (hkp1.1.tr hL)
              have k2 := ok2 X hX2 hL
              refine ⟨fun n hn => ?_, fun o ho => ?_⟩
              · rw [List.append_assoc, okL_app (k1.1 (n + 1) (by omega)), okL_app (okE_s (n := n) eo (by rcases ho9 with z | z <;> simp [z]))]
                exact k2.1 n hn
              · rcases List.mem_append.mp ho with z | z
                · rcases List.mem_append.mp z with y | y
                  · exact k1.2 o y
                  · rw [List.mem_singleton.mp y, eo]
                    rcases ho9 with q | q
                    · exact Or.inr (Or.inr (Or.inr (Or.inr (Or.inr (Or.inr (Or.inr (Or.inl q)))))))
                    · exact Or.inr (Or.inr (Or.inr (Or.inr (Or.inr (Or.inr (Or.inr (Or.inr q)))))))
                · exact k2.2 o z
            · have hX2 : agr (nOp Q1 c (o1, 0, 0)) Q2 X := hX.sub (kp.1.tr (kp_op (c := c) (o := (o1, 0, 0))).1) leQ.rf agr.rf
              have hkp1 : kpQ none none (some c) Q1 Q2 := (kp_op (c := c) (o := (o1, 0, 0))).tr n4 (fun b z => (nomatch z)) (fun b z => (nomatch z)) (fun b z _ => z)
              have hX1 : agr Q Q1 X := hX.kp hkp1 kp.1 (fun b z => (nomatch z)) (fun b z => (nomatch z)) (fun b z => by cases z; exact hc)
              have eo : (qo X).2 (qo Q1).1 = (o1, 0, 0) := (hX.2.2.2.2 (qo Q1).1 kp.1.2.2.2.2 (Nat.lt_of_lt_of_le (Nat.lt_succ_self _) n4.1.2.2.2.2)).trans ((n4.2.2.2.2.2 (qo Q1).1 (Nat.lt_succ_self _)).trans updL_s)
              rw [opsE_app, opsE_app, sem X hX1 f hf, eB_a, eB_a, hF1, eB_a]
              congr 1
              funext b'
              rw [eB_s]
              show eB (eB (opE t (evP t X f) ((qo X).2 (qo Q1).1) D n (tru b' :: tru b :: st)) fun st' => some (st', 0)) _ = _
              rw [eB_p, eo, hop, eB_s]
              exact sem2 X hX2 f hf D n (op b b') st
      · rw [if_neg e2]
        refine ⟨fun cs p' hq => (nomatch hq), fun w' hq => ?_⟩
        cases hq
        obtain ⟨S1, a1, a2, a3, a4, a5⟩ := g3 e e2
        obtain ⟨S2, b1, b2, b3⟩ := e_push (x := J) (y := nI c) (z := 0) a4 (by omega)
        obtain ⟨S3, c1, c2, c3⟩ := e_push (x := E) (y := nI c) (z := 0) b2 (by simp; omega)
        refine baR.st hN hR.1.2.2 hR.2.2.1 (S' := S3) (by omega) ?_ (by unfold rI; rw [(c3 7 (by decide)).1, (b3 7 (by decide)).1]; exact a2) (by omega) (((a5.mn (K := KR) (by decide)).tr b3 (fun _ z => z) (by decide)).tr c3 (fun _ z => z) (by decide)) (by omega)
        simp only [hM, a1, md_bs]
        rw [if_neg (by decide), b1]
        simp only [md_cs]
        exact c1
    · rw [if_neg e]
      refine ⟨fun cs p' hq => ?_, fun w hq => (nomatch hq)⟩
      cases hq
      refine ⟨Q, ⟨1, _, by omega, fun n => ?_, hR0, rF.rf.p (by decide)⟩, Nat.le_refl _, hp, ⟨by omega, by omega, by omega, by omega, by omega⟩, kpQ.rf, [], by simp, fun X hX hL => ⟨fun n _ => rfl, fun o ho => (nomatch ho)⟩, fun X hX f hf D n b st => ?_⟩
      · rw [qL_st hR.1.2.2 hR.2.2.1]
        simp only [hM, g1 e, md_bs, if_true, md_cs]
      · rw [hF0, eB_s]; rfl
/-- parts joined by a sign -/
theorem SQl {t : List Nat} (ht : tOk t) {N nv e1 : Nat} (hN : 161 ≤ N) {E M J o1 Z : Int32} {ch sl B tb dm : Nat} {rd : Rd dCnd} (hEl : EL t N nv e1 E rd sl B tb dm) (hB : 40 ≤ B ∧ B ≤ 41) (ho9 : o1 = 9 ∨ o1 = 10) (hsl : 2 ≤ sl) (h0 : ch ≠ 0) (h9 : ch < 1000) (F : dS → Nat → List dCnd → Bool → eR Bool) (op : Bool → Bool → Bool) (G : List dCnd → dCnd)
    (hF0 : ∀ D n b, F D n [] b = some (b, 0)) (hF1 : ∀ D n c r b, F D n (c :: r) b = eB (c D n) fun b' => F D n r (op b b')) (hG : ∀ D n c r, G (c :: r) D n = eB (c D n) fun b => F D n r b)
    (hop : ∀ tq rec D n b b' st, opE tq rec (o1, 0, 0) D n (tru b' :: tru b :: st) = some (tru (op b b') :: st, 0))
    (hM : ∀ (a b : Int32) (S : md_S), mo_readPart N M a b S = md_b (mo_isTwice (nI ch) S) fun v S1 => if v = 0 then some S1 else md_c (mo_push J a 0 S1) fun S2 => mo_push E a 0 S2)
    (hJ : ∀ (a b : Int32) (S : md_S), mo_readPart N J a b S = md_c (mo_emit a o1 0 0 S) fun S1 => mo_push M a 0 S1)
    (hZ : ∀ (a b : Int32) (S : md_S), mo_readPart N Z a b S = md_c (mo_push M a 0 S) fun S1 => mo_push E a 0 S1) : 
    ∀ (p : Nat) (Q : cQ) (c : Nat) (td : tdL) (S : md_S), rR t p Q ((Z, nI c, 0) :: td) e1 S → c < (qc Q).1 → ent e1 0 p Q → td.length + 20 * nv + (tb + 2) ≤ 400 → p ≤ t.length →
  (∀ d p', (rB (qSeq t ch rd p) fun cs p1 => .inl (G cs, p1)) = .inl (d, p') → ∃ Q', gdR t N p S td e1 p' Q' (sl - 2) 0 ∧ p < p' ∧ p' ≤ t.length ∧ grw 4 4 Q p Q' p' ∧ rlB t nv Q c Q' d (dm + 1)) ∧ (∀ w, (rB (qSeq t ch rd p) fun cs p1 => .inl (G cs, p1)) = .inr w → baR t N p S w (B + 1)) := by
  have h160 := ht.1
  intro p Q c td S hR hc hE htd hp
  have hR0 := hR.pop
  have f0 : rF KR S (md_p S 55 (nI td.length)) := rF.rf.p (by decide)
  obtain ⟨S2, b1, b2, b3⟩ := hR0.push (x := M) (y := nI c) (z := 0) (by omega)
  obtain ⟨S3, c1, c2, c3⟩ := b2.push (x := E) (y := nI c) (z := 0) (by simp; omega)
  have f3 : rF KR S S3 := (f0.tr b3 (fun _ z => z) (by decide)).tr c3 (fun _ z => z) (by decide)
  have hs3 : ∀ n, qL N (n + 1) S = qL N n S3 := fun n => by
    rw [qL_st hR.1.2.2 hR.2.2.1]
    simp only [hZ]
    rw [b1]
    simp only [md_cs]
    rw [c1]
    rfl
  obtain ⟨l1, l2⟩ := hEl p Q c ((M, nI c, 0) :: td) S3 c2 hc hE (by simp; omega) hp
  unfold qSeq
  cases hr : rd p with
  | inr w =>
    refine ⟨fun d p' hq => (nomatch hq), fun w' hq => ?_⟩
    cases hq
    exact (l2 w hr).of (k := 1) (by omega) hs3 f3
  | inl q =>
    obtain ⟨d1, p1⟩ := q
    obtain ⟨Q1, ⟨k1, S4, x1, x2, x3, x4⟩, y1, y2, y3, y4⟩ := l1 d1 p1 hr
    obtain ⟨kp, ol, hol, sem, ok⟩ := y4
    have hc1 : c < (qc Q1).1 := Nat.lt_of_lt_of_le hc kp.1.2.2.2.1
    obtain ⟨i1, i2, i3, i4, i5⟩ := y3
    obtain ⟨z1, z2, z3, z4, z5⟩ := hE
    have f4 : rF KR S S4 := f3.tr x4 (fun _ z => z) (fun _ z => z)
    have hs4 : ∀ n, qL N (n + (k1 + 1)) S = qL N n S4 := fun n => by rw [← Nat.add_assoc, hs3, x2]
    obtain ⟨j1, j2⟩ := MOl ht hN hEl hB ho9 h0 h9 F op hF0 hF1 hop hM hJ 160 p1 Q1 c td S4 x3 hc1 ⟨by omega, by omega, by omega, by omega, by omega⟩ htd y2 (by omega)
    show (∀ d p', rB (rB (qMore t ch rd 160 p1) _) _ = _ → _) ∧ (∀ w, rB (rB (qMore t ch rd 160 p1) _) _ = _ → _)
    cases hr2 : qMore t ch rd 160 p1 with
    | inr w =>
      refine ⟨fun d p' hq => (nomatch hq), fun w' hq => ?_⟩
      cases hq
      exact (j2 w hr2).of (k := k1 + 1) (by omega) hs4 f4
    | inl q =>
      obtain ⟨cs, p2⟩ := q
      refine ⟨fun d p' hq => ?_, fun w' hq => (nomatch hq)⟩
      cases hq
      obtain ⟨Q2, ⟨k2, S7, w1, w2, w3, w4⟩, n1, n2, n3, n4, ol2, hol2, ok2, sem2⟩ := j1 cs p2 hr2
      obtain ⟨m1, m2, m3, m4, m5⟩ := n3
      refine ⟨Q2, ⟨k2 + (k1 + 1), S7, by omega, fun n => ?_, w3, f4.tr w4 (fun _ z => z) (fun _ z => z)⟩, by omega, n2, ⟨by omega, by omega, by omega, by omega, by omega⟩, kp.tr n4 (fun b z => (nomatch z)) (fun b z => (nomatch z)) (fun b z _ => z), ol ++ ol2, ?_, fun X hX f hf D n st => ?_, fun X hX hL => ?_⟩
      · rw [← Nat.add_assoc, hs4, w2]
      · rw [hol2, hol]; simp
      · have hX2 : agr Q1 Q2 X := hX.sub kp.1 leQ.rf agr.rf
        have hX1 : agr Q Q1 X := hX.kp n4 kp.1 (fun b z => (nomatch z)) (fun b z => (nomatch z)) (fun b z => by cases z; exact hc)
        rw [opsE_app, sem X hX1 f hf, eB_a, hG, eB_a]
        congr 1
        funext b
        rw [eB_s]
        exact sem2 X hX2 f hf D n b st
      · have hX2 : agr Q1 Q2 X := hX.sub kp.1 leQ.rf agr.rf
        have hX1 : agr Q Q1 X := hX.kp n4 kp.1 (fun b z => (nomatch z)) (fun b z => (nomatch z)) (fun b z => by cases z; exact hc)
        have k1 := ok X hX1 (n4.1.tr hL)
        have k2 := ok2 X hX2 hL
        refine ⟨fun n hn => ?_, fun o ho => ?_⟩
        · rw [okL_app (k1.1 n (by omega))]
          exact k2.1 n (by omega)
        · rcases List.mem_append.mp ho with z | z
          · exact k1.2 o z
          · exact k2.2 o z
