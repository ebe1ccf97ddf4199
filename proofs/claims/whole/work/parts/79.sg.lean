/-- segments, one behind the other -/
theorem SPl {t : List Nat} (ht : tOk t) {N nv : Nat} (hN : 161 ≤ N) (hnv : nv ≤ 4) (hlo : ∀ m, nv = m + 1 → AN t N m) : ∀ (k p : Nat) (Q : cQ) (a : Nat) (td : tdL) (S : md_S), rR t p Q ((0, nI a, 0) :: td) (4 - nv) S → a < (qp Q).1 → (5 * (qp Q).1 ≤ 2 * p + 4 ∧ 13 * (qc Q).1 + 4 ≤ 4 * p + 4 * (4 - nv) ∧ (qg Q).1 ≤ p ∧ (qk Q).1 ≤ p ∧ (qo Q).1 ≤ p) → td.length + 20 * nv + 6 ≤ 400 → p ≤ t.length → t.length ≤ p + k →
    (∀ xs p', qSegs t (loV t nv) k p = .inl (xs, p') → ∃ Q' gl, gdR t N p S td (4 - nv) p' Q' 0 1 ∧ p ≤ p' ∧ p' ≤ t.length ∧ grwS 0 0 Q p Q' p' ∧ kpQ (some a) none none Q Q' ∧ (qp Q').2.2 a = (qp Q).2.2 a ++ gl ∧ gl.length = xs.length ∧ xs.length ≤ k ∧ gl.all (sgl Q') = xs.all (·.2) ∧ (∀ x, x ∈ gl → x < (qg Q').1) ∧ (∀ X, agr Q Q' X → leQ Q' X → ∀ s, s ∈ gl → ∀ k, k ∈ (qg X).2.2 s → okK t X (okP t X nv) ((qk X).2 k)) ∧ ∀ X, agr Q Q' X → ∀ f, nv ≤ f → gl.map (fun s => segE t (evP t X f) X s) = xs.map (·.1)) ∧
    (∀ w, qSegs t (loV t nv) k p = .inr w → baR t N p S w 40) := by
  have h160 := ht.1
  have stop : ∀ (p : Nat) (Q : cQ) (a : Nat) (td : tdL) (S : md_S), rR t p Q ((0, nI a, 0) :: td) (4 - nv) S → p ≤ t.length → ¬ (lk t p = 46 ∨ lk t p = 91) → gdR t N p S td (4 - nv) p Q 0 1 := fun p Q a td S hR hp hn => by
    have hR0 := hR.pop
    refine ⟨1, _, by omega, fun n => ?_, hR0, rF.rf.p (by decide)⟩
    rw [qL_st hR.1.2.2 hR.2.2.1, rqp0]
    unfold mo_readMore
    rw [e_atp hR0.1 ht (by omega)]
    simp only [md_bs, aT_46 ht, aT_91 ht]
    rw [if_neg (fun z => hn (Or.inl z)), if_neg (fun z => hn (Or.inr z))]
    rfl
  intro k
  induction k with
  | zero =>
    intro p Q a td S hR ha hE htd hp hk
    refine ⟨fun xs p' hq => ?_, fun w hq => (nomatch hq)⟩
    cases hq
    refine ⟨Q, [], stop p Q a td S hR hp (by rw [lk_ge (by omega)]; omega), Nat.le_refl _, hp, ⟨by omega, by omega, by omega, by omega, by omega⟩, kpQ.rf, by simp, rfl, by simp, rfl, fun x hx => (nomatch hx), fun X _ _ s hs => (nomatch hs), fun X _ f _ => rfl⟩
  | succ k ih =>
    intro p Q a td S hR ha hE htd hp hk
    rw [qSegs]
    by_cases hc : lk t p = 46 ∨ lk t p = 91
    · rw [if_pos hc]
      obtain ⟨g1, g2⟩ := SGl ht hN hnv hlo p Q a td S hR ha hE htd hp hc
      obtain ⟨z1, z2, z3, z4, z5⟩ := hE
      cases hr : qSeg t (loV t nv) p with
      | inr w =>
        refine ⟨fun xs p' hq => (nomatch hq), fun w' hq => ?_⟩
        cases hq
        exact g2 w hr
      | inl q =>
        obtain ⟨x, p1⟩ := q
        obtain ⟨Q1, ⟨k1, S1, x1, x2, x3, x4⟩, y1, y2, ⟨i1, i2, i3, i4, i5⟩, kp, y5, y6, y7, sem, ok⟩ := g1 x p1 hr
        have ha1 : a < (qp Q1).1 := Nat.lt_of_lt_of_le ha kp.1.1
        obtain ⟨j1, j2⟩ := ih p1 Q1 a td S1 x3 ha1 ⟨by omega, by omega, by omega, by omega, by omega⟩ htd y2 (by omega)
        show (∀ xs p', rB (qSegs t (loV t nv) k p1) _ = _ → _) ∧ (∀ w, rB (qSegs t (loV t nv) k p1) _ = _ → _)
        cases hr2 : qSegs t (loV t nv) k p1 with
        | inr w =>
          refine ⟨fun xs p' hq => (nomatch hq), fun w' hq => ?_⟩
          cases hq
          exact (j2 w hr2).of (k := k1) (by omega) x2 x4
        | inl q =>
          obtain ⟨xs, p2⟩ := q
          refine ⟨fun xs' p' hq => ?_, fun w' hq => (nomatch hq)⟩
          cases hq
          obtain ⟨Q2, gl, ⟨k2, S2, w1, w2, w3, w4⟩, u1, u2, ⟨m1, m2, m3, m4, m5⟩, kp2, u5, u6, u6b, u7, u8, ok2, sem2⟩ := j1 xs p2 hr2
          have hne : (some a : Option Nat) ≠ none := fun z => nomatch z
          have sg : sgl Q2 (qg Q).1 = sgl Q1 (qg Q).1 := by
            unfold sgl
            rw [(kp2.2.2.1 (qg Q).1 y5).1, (kp2.2.2.1 (qg Q).1 y5).2 (fun z => nomatch z)]
            congr 1
            have hC1 := x3.2.1
            have hb := (hC1.2.2.2.2.2.2.2.1 (qg Q).1 y5).2.2.2.1
            · have : ∀ l : List Nat, (∀ x, x ∈ l → x < (qk Q1).1) → l.all (fun k => ((qk Q2).2 k).1 == 0 || ((qk Q2).2 k).1 == 2) = l.all (fun k => ((qk Q1).2 k).1 == 0 || ((qk Q1).2 k).1 == 2) := by
                intro l
                induction l with
                | nil => intro _; rfl
                | cons y r ihl =>
                  intro hl
                  rw [List.all_cons, List.all_cons, kp2.2.2.2.1 y (hl y (by simp)), ihl (fun x hx => hl x (by simp [hx]))]
              exact this _ hb
          refine ⟨Q2, (qg Q).1 :: gl, ⟨k2 + k1, S2, by omega, fun n => ?_, w3, x4.tr w4 (fun _ z => z) (fun _ z => z)⟩, by omega, u2, ⟨by omega, by omega, by omega, by omega, by omega⟩, kp.tr kp2 (fun b z _ => z) (fun b z => (nomatch z)) (fun b z => (nomatch z)), ?_, by simp [u6], by simp; omega, ?_, fun y hy => ?_, fun X hX hL s hs k hk => ?_, fun X hX f hf => ?_⟩
          · rw [← Nat.add_assoc, x2, w2]
          · rw [u5, y6]; simp
          · rw [List.all_cons, List.all_cons, u7, sg, y7]
          · rcases List.mem_cons.mp hy with rfl | hy
            · exact Nat.lt_of_lt_of_le y5 kp2.1.2.1
            · exact u8 y hy
          · have hX2 : agr Q1 Q2 X := hX.sub kp.1 leQ.rf agr.rf
            have hX1 : agr Q Q1 X := hX.kp kp2 kp.1 (fun b z => by cases z; exact ha) (fun b z => (nomatch z)) (fun b z => (nomatch z))
            rcases List.mem_cons.mp hs with z | z
            · rw [z] at hk; exact ok X hX1 (kp2.1.tr hL) k hk
            · exact ok2 X hX2 hL s z k hk
          · have hX2 : agr Q1 Q2 X := hX.sub kp.1 leQ.rf agr.rf
            have hX1 : agr Q Q1 X := hX.kp kp2 kp.1 (fun b z => by cases z; exact ha) (fun b z => (nomatch z)) (fun b z => (nomatch z))
            rw [List.map_cons, List.map_cons, sem X hX1 f hf, sem2 X hX2 f hf]
    · rw [if_neg hc]
      refine ⟨fun xs p' hq => ?_, fun w hq => (nomatch hq)⟩
      cases hq
      exact ⟨Q, [], stop p Q a td S hR hp hc, Nat.le_refl _, hp, ⟨by omega, by omega, by omega, by omega, by omega⟩, kpQ.rf, by simp, rfl, by simp, rfl, fun x hx => (nomatch hx), fun X _ _ s hs => (nomatch hs), fun X _ f _ => rfl⟩
theorem PTl {t : List Nat} (ht : tOk t) {N nv : Nat} (hN : 161 ≤ N) (hnv : nv ≤ 4) (hlo : ∀ m, nv = m + 1 → AN t N m) : PT t N nv := by
  have h160 := ht.1
  intro p Q td S rt hR hrt hpt hE htd
  have hlt : p < t.length := lk_lt (rfl : lk t p = lk t p) (by have : lk t p = 64 ∨ lk t p = 36 := hpt; omega)
  obtain ⟨z1, z2, z3, z4, z5⟩ := hE
  obtain ⟨g1, g2⟩ := SPl ht hN hnv hlo 160 (p + 1) (nPath Q p rt) (qp Q).1 td S hR (Nat.lt_succ_self _) ⟨by show 5 * ((qp Q).1 + 1) ≤ _; omega, by show 13 * (qc Q).1 + 4 ≤ _; omega, by show (qg Q).1 ≤ _; omega, by show (qk Q).1 ≤ _; omega, by show (qo Q).1 ≤ _; omega⟩ htd (by omega) (by omega)
  have e21 : (qLv t nv).2.1 p = qPath t (loV t nv) p := by rw [qLv_eq]
  rw [e21]
  unfold qPath
  cases hr : qSegs t (loV t nv) 160 (p + 1) with
  | inr w =>
    refine ⟨fun d p' hq => (nomatch hq), fun w' hq => ?_⟩
    cases hq
    exact g2 w hr
  | inl q =>
    obtain ⟨xs, p1⟩ := q
    refine ⟨fun d p' hq => ?_, fun w' hq => (nomatch hq)⟩
    cases hq
    obtain ⟨Q1, gl, gd, y1, y2, ⟨i1, i2, i3, i4, i5⟩, kp, y5, y6, y6b, y7, y8, ok, sem⟩ := g1 xs p1 hr
    have i1' : 5 * (qp Q1).1 + 2 * (p + 1) ≤ 2 * p1 + 5 * ((qp Q).1 + 1) + 0 := i1
    have i2' : 13 * (qc Q1).1 + 4 * (p + 1) ≤ 4 * p1 + 13 * (qc Q).1 + 0 := i2
    have i3' : (qg Q1).1 + (p + 1) ≤ (qg Q).1 + p1 := i3
    have i4' : (qk Q1).1 + (p + 1) ≤ (qk Q).1 + p1 := i4
    have i5' : (qo Q1).1 + (p + 1) ≤ (qo Q).1 + p1 := i5
    have hl0 : (qp (nPath Q p rt)).2.2 (qp Q).1 = [] := updL_s
    have hb0 : (qp Q1).2.1 (qp Q).1 = (p, rt) := ((kp.2.1 (qp Q).1 (Nat.lt_succ_self _)).1).trans updL_s
    have hgl : (qp Q1).2.2 (qp Q).1 = gl := by rw [y5, hl0]; rfl
    have hlt1 : (qp Q).1 < (qp Q1).1 := Nat.lt_of_lt_of_le (Nat.lt_succ_self _) kp.1.1
    have hkp : kpQ none none none Q Q1 := (kp_path (be := p) (rt := rt)).tr kp (fun b z h => by cases z; exact absurd h (Nat.lt_irrefl _)) (fun b z => (nomatch z)) (fun b z => (nomatch z))
    refine ⟨Q1, gd, by omega, y2, ⟨⟨by omega, by omega, by omega, by omega, by omega⟩, by omega⟩, hkp, hlt1, Nat.le_refl _, by rw [hb0], by rw [hgl, y7], by rw [hgl, y6], by rw [hgl, y6]; exact y6b, fun X hX f hf => ?_, fun X hX hL => ?_⟩
    · obtain ⟨f, rfl⟩ : ∃ g, f = g + 1 := ⟨f - 1, by omega⟩
      have hX1 : agr (nPath Q p rt) Q1 X := hX.sub (kp_path (be := p) (rt := rt)).1 leQ.rf agr.rf
      have hx := hX.1 (qp Q).1 (Nat.le_refl _) hlt1
      rw [evP, hx.1, hx.2, hb0, hgl, sem X hX1 f (by omega), hrt]
    · have hX1 : agr (nPath Q p rt) Q1 X := hX.sub (kp_path (be := p) (rt := rt)).1 leQ.rf agr.rf
      have hx := hX.1 (qp Q).1 (Nat.le_refl _) hlt1
      refine ⟨Nat.lt_of_lt_of_le hlt1 hL.1, fun s hs k hk => ?_⟩
      rw [hx.2, hgl] at hs
      exact ok X hX1 hL s hs k hk
theorem ALL {t : List Nat} (ht : tOk t) {N : Nat} (hN : 161 ≤ N) : ∀ nv, nv ≤ 4 → PT t N nv ∧ TH t N nv ∧ TS t N nv ∧ AN t N nv := by
  intro nv
  induction nv with
  | zero =>
    intro h
    have hP : PT t N 0 := PTl ht hN h (fun m z => absurd z (by omega))
    have hT : TH t N 0 := THl ht hN h hP (fun m z => absurd z (by omega))
    have hS : TS t N 0 := TSl ht hN h hP hT (fun m z => absurd z (by omega))
    exact ⟨hP, hT, hS, ANl ht hN hS⟩
  | succ nv ih =>
    intro h
    obtain ⟨p1, p2, p3, p4⟩ := ih (by omega)
    have hP : PT t N (nv + 1) := PTl ht hN h (fun m z => by cases z; exact p4)
    have hT : TH t N (nv + 1) := THl ht hN h hP (fun m z => by cases z; exact ⟨p2, p1⟩)
    have hS : TS t N (nv + 1) := TSl ht hN h hP hT (fun m z => by cases z; exact ⟨p3, p4⟩)
    exact ⟨hP, hT, hS, ANl ht hN hS⟩
