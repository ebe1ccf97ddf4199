theorem ANl {t : List Nat} (ht : tOk t) {N nv : Nat} (hN : 161 ≤ N) (hTS : TS t N nv) : AN t N nv := by
  have h1 : EL t N nv (4 - nv) 9 (qLv t nv).1 6 40 13 (2 * nv + 2) := hTS
  have h2 : EL t N nv (4 - nv) 6 (qAll t (qLv t nv).1) 4 41 15 (2 * nv + 3) := SQl ht hN (E := 9) (M := 7) (J := 8) (o1 := 9) (Z := 6) (ch := 38) h1 (by decide) (Or.inl rfl) (by decide) (by decide) (by decide) anL (fun a b => a && b) allR (fun _ _ _ => rfl) (fun _ _ _ _ _ => rfl) (fun _ _ _ _ => all_anL) (fun tq rec D n b b' st => by cases b <;> cases b' <;> rfl) (fun a b S => rqp7) (fun a b S => rqe8) (fun a b S => rqp6)
  exact SQl ht hN (E := 6) (M := 4) (J := 5) (o1 := 10) (Z := 3) (ch := 124) h2 (by decide) (Or.inr rfl) (by decide) (by decide) (by decide) orL (fun a b => a || b) anyR (fun _ _ _ => rfl) (fun _ _ _ _ _ => rfl) (fun _ _ _ _ => any_orL) (fun tq rec D n b b' st => by cases b <;> cases b' <;> rfl) (fun a b S => rqp4) (fun a b S => rqe5) (fun a b S => rqp3)
/-! selectors -/
def entS (e j p : Nat) (Q : cQ) : Prop := 5 * (qp Q).1 ≤ 2 * p + 2 ∧ 13 * (qc Q).1 + 8 ≤ 4 * p + 4 * e + j ∧ (qg Q).1 ≤ p ∧ (qk Q).1 ≤ p ∧ (qo Q).1 ≤ p
def grwS (a c : Nat) (Q : cQ) (p : Nat) (Q' : cQ) (p' : Nat) : Prop := 5 * (qp Q').1 + 2 * p ≤ 2 * p' + 5 * (qp Q).1 + a ∧ 13 * (qc Q').1 + 4 * p ≤ 4 * p' + 13 * (qc Q).1 + c ∧ (qg Q').1 + p ≤ (qg Q).1 + p' ∧ (qk Q').1 + p ≤ (qk Q).1 + p' ∧ (qo Q').1 + p ≤ (qo Q).1 + p'
/-- a selector that was read -/
def rlS (t : List Nat) (nv : Nat) (Q : cQ) (s : Nat) (Q' : cQ) (x : dSel × Bool) : Prop := kpQ none (some s) none Q Q' ∧ (qk Q).1 < (qk Q').1 ∧ (qg Q').2.2 s = (qg Q).2.2 s ++ [(qk Q).1] ∧ x.2 = (((qk Q').2 (qk Q).1).1 == 0 || ((qk Q').2 (qk Q).1).1 == 2) ∧ (∀ X, agr Q Q' X → ∀ f, nv ≤ f → selE t (evP t X f) X ((qk X).2 (qk Q).1) = x.1) ∧ ∀ X, agr Q Q' X → leQ Q' X → okK t X (okP t X nv) ((qk X).2 (qk Q).1)
theorem rlS_1 {t : List Nat} {nv : Nat} {Q : cQ} {s : Nat} {k : Int32 × Int32 × Int32 × Int32 × Int32} {x : dSel × Bool} (h2 : x.2 = (k.1 == 0 || k.1 == 2)) (h : ∀ rec X, selE t rec X k = x.1) (hk : ∀ X P, okK t X P k) : rlS t nv Q s (nSel Q s k) x := by
  have e : (qk (nSel Q s k)).2 (qk Q).1 = k := updL_s
  have ek : ∀ X, agr Q (nSel Q s k) X → (qk X).2 (qk Q).1 = k := fun X hX => (hX.2.2.1 (qk Q).1 (Nat.le_refl _) (Nat.lt_succ_self _)).trans updL_s
  refine ⟨kp_sel, Nat.lt_succ_self _, updL_s, by rw [e]; exact h2, fun X hX f hf => ?_, fun X hX hL => ?_⟩
  · rw [ek X hX, h]
  · rw [ek X hX]; exact hk _ _
theorem rC.c0 {Q : cQ} {S : md_S} (h : rC Q S) {v : Int32} : rC Q (md_w S 49 (qc Q).1 v) := by
  obtain ⟨⟨a1, a2, a3, a4, a5⟩, ⟨b1, b2, b3, b4, b5⟩, c1, c2, c3, c4, d1, d2, d3⟩ := h
  refine ⟨⟨a1, a2, a3, a4, a5⟩, ⟨b1, b2, b3, b4, b5⟩, c1, c2, c3, c4, d1, d2, fun a ha => ?_⟩
  have : (md_w S 49 (qc Q).1 v).2 49 a = S.2 49 a := md_wn (by omega)
  rw [this]
  exact d3 a ha
theorem rC.c1 {Q : cQ} {S : md_S} (h : rC Q S) (h0 : S.2 49 (qc Q).1 = -1) (hl : (qc Q).1 < 50) : rC (nCnd Q) (md_p S 29 (nI ((qc Q).1 + 1))) := by
  obtain ⟨⟨a1, a2, a3, a4, a5⟩, ⟨b1, b2, b3, b4, b5⟩, c1, c2, c3, c4, d1, d2, d3⟩ := h
  refine ⟨⟨?_, ?_, ?_, ?_, ?_⟩, ⟨b1, b2, b3, hl, b5⟩, c1, c2, c3, c4, d1, d2, ?_⟩
  · rw [md_p1, if_neg (by decide)]; exact a1
  · rw [md_p1, if_neg (by decide)]; exact a2
  · rw [md_p1, if_neg (by decide)]; exact a3
  · rw [md_p1, if_pos rfl]; rfl
  · rw [md_p1, if_neg (by decide)]; exact a5
  · exact rLs_new d3 h0 (fun a ha => rfl) (fun a ha => rfl)
theorem eB_ce {α : Type} {x : eR α} {f g : α → eR α} (h : ∀ a, f a = g a) : eB x f = eB x g := by
  have : f = g := funext h
  rw [this]
theorem has4 : ∀ hf hto : Bool, bI hf + (if hto = true then 2 else 0) = 0 ∨ bI hf + (if hto = true then 2 else 0) = 1 ∨ bI hf + (if hto = true then 2 else 0) = 2 ∨ bI hf + (if hto = true then 2 else 0) = 3 := by decide +kernel
theorem SLl {t : List Nat} (ht : tOk t) {N nv : Nat} (hN : 161 ≤ N) (hnv : nv ≤ 4) (hlo : ∀ m, nv = m + 1 → AN t N m) : ∀ (p : Nat) (Q : cQ) (s : Nat) (td : tdL) (S : md_S) (j : Nat), rR t p Q ((1, nI s, 0) :: td) (4 - nv) S → s < (qg Q).1 → entS (4 - nv) j p Q → j ≤ 3 → td.length + 20 * nv + 5 ≤ 400 → p ≤ t.length →
    (∀ x p', qSel t (loV t nv) p = .inl (x, p') → ∃ Q', gdR t N p S ((2, nI s, 0) :: td) (4 - nv) p' Q' 8 0 ∧ p < p' ∧ p' ≤ t.length ∧ grwS 2 5 Q p Q' p' ∧ rlS t nv Q s Q' x) ∧
    (∀ w, qSel t (loV t nv) p = .inr w → baR t N p S w 40) := by
  have h160 := ht.1
  intro p Q s td S j hR hs hE hj htd hp
  have hR0 := hR.pop
  obtain ⟨z1, z2, z3, z4, z5⟩ := hE
  obtain ⟨S0, hS0⟩ : ∃ S0, S0 = md_p S 55 (nI td.length) := ⟨_, rfl⟩
  have f0 : rF KR S S0 := by
    rw [hS0]
    exact rF.rf.p (by decide)
  rw [← hS0] at hR0
  obtain ⟨S1, a1, a2, a3⟩ := hR0.push (x := 2) (y := nI s) (z := 0) (by omega)
  have f1 : rF KR S S1 := f0.tr a3 (fun _ z => z) (by decide)
  obtain ⟨PR, hPR⟩ : ∃ PR, PR = mo_readSelector N (nI s) S0 := ⟨_, rfl⟩
  have hst : ∀ n, qL N (n + 1) S = md_c PR fun S' => qL N n S' := fun n => by
    rw [qL_st hR.1.2.2 hR.2.2.1, rqp1, hPR, hS0]
  have unf : PR = (if lk t p = 39 then md_c (mo_readString N 39 (-1) S1) fun S26 => md_b (mo_newSelector (nI s) 0 (S26.1 86) (S26.1 87) 0 0 S26) fun v42 S42 => some S42
      else if lk t p = 42 then md_b (mo_newSelector (nI s) 1 0 0 0 0 (md_p S1 6 (S1.1 6 + 1))) fun v72 S72 => some S72
      else if lk t p = 58 then mo_readPlaces N (nI s) S1
      else if ¬ isNm t p then (if lk t p = 63 then md_c (mo_opens S1) fun S107 => md_l (md_p S107 6 (S107.1 6 + 1)) fun S117 => if md_in (S117.1 29) 50 then md_l (md_w S117 49 (S117.1 29).toNatClampNeg (-1)) fun S129 => md_b (mo_newSelector (nI s) 4 (S129.1 29) 0 0 0 S129) fun v140 S140 => md_c (mo_push 19 0 0 S140) fun S149 => md_c (mo_push 3 (S149.1 29) 0 S149) fun S159 => some (md_p S159 29 (S159.1 29 + 1)) else none
        else md_c (mo_fail (S1.1 6) S1) fun S180 => some S180)
      else mo_readPlaces N (nI s) S1) := by
    rw [hPR]
    unfold mo_readSelector mo_readSelector_j92
    rw [e_atp hR0.1 ht (by omega)]
    simp only [md_bs]
    rw [a1]
    simp only [md_cs, aT_39 ht, aT_42 ht, aT_58 ht, aT_63 ht, md_ci]
    rw [e_isNum ht a2.1 hp]
    simp only [md_bs, i01, md_lx]
  have ill : ∀ {w : Nat} {S' : md_S}, PR = some S' → rI w S' → w < 1000 → rF KR S1 S' → baR t N p S w 40 := fun {w S'} a b d f => by
    refine ⟨2, S', by omega, fun n => ?_, b, d, f1.tr f (fun _ z => z) (fun _ z => z)⟩
    rw [show n + 2 = (n + 1) + 1 from rfl, hst, a]
    exact qL_ill hN b d
  -- one selector is laid down
  have lay : ∀ {p1 : Nat} {S2 : md_S} {k : Int32 × Int32 × Int32 × Int32 × Int32} {x : dSel × Bool}, rR t p1 Q ((2, nI s, 0) :: td) (4 - nv) S2 → rF KR S1 S2 → p < p1 → p1 ≤ t.length → (PR = md_b (mo_newSelector (nI s) k.1 k.2.1 k.2.2.1 k.2.2.2.1 k.2.2.2.2 S2) fun _ S' => some S') → x.2 = (k.1 == 0 || k.1 == 2) → (∀ X P, okK t X P k) → (∀ rec X, selE t rec X k = x.1) → ∃ Q', gdR t N p S ((2, nI s, 0) :: td) (4 - nv) p1 Q' 8 0 ∧ p < p1 ∧ p1 ≤ t.length ∧ grwS 2 5 Q p Q' p1 ∧ rlS t nv Q s Q' x := fun {p1 S2 k x} b f hpp hp1 e e2 e4 e3 => by
    obtain ⟨S3, c1, c2, c3⟩ := b.sel (s := s) (x2 := k.1) (x3 := k.2.1) (x4 := k.2.2.1) (x5 := k.2.2.2.1) (x6 := k.2.2.2.2) hs (by omega)
    rw [c1] at e
    refine ⟨nSel Q s k, ⟨1, S3, by omega, fun n => ?_, c2, (f1.tr f (fun _ z => z) (fun _ z => z)).tr c3 (fun _ z => z) (by decide)⟩, hpp, hp1, ⟨by show 5 * (qp Q).1 + _ ≤ _; omega, by show 13 * (qc Q).1 + _ ≤ _; omega, by show (qg Q).1 + _ ≤ _; omega, by show (qk Q).1 + 1 + _ ≤ _; omega, by show (qo Q).1 + _ ≤ _; omega⟩, rlS_1 e2 e3 e4⟩
    rw [hst, e]
    rfl
  have layI : ∀ {w : Nat} {S2 : md_S} {k : Int32 × Int32 × Int32 × Int32 × Int32}, rC Q S2 → rF KR S1 S2 → rI w S2 → w < 1000 → (PR = md_b (mo_newSelector (nI s) k.1 k.2.1 k.2.2.1 k.2.2.2.1 k.2.2.2.2 S2) fun _ S' => some S') → baR t N p S w 40 := fun {w S2 k} b f hi hw e => by
    obtain ⟨S3, c1, c2, c3⟩ := e_newSel (x2 := k.1) (x3 := k.2.1) (x4 := k.2.2.1) (x5 := k.2.2.2.1) (x6 := k.2.2.2.2) b hs (by omega)
    rw [c1] at e
    exact ill e (by unfold rI; rw [(c3 7 (by decide)).1]; exact hi) hw (f.tr c3 (fun _ z => z) (by decide))
  unfold qSel
  by_cases c39 : lk t p = 39
  · rw [if_pos c39] at unf ⊢
    obtain ⟨r1, r2⟩ := e_readString ht (N := N) (qt := 39) (br := 39) (x2 := -1) (by decide) (by decide) (Or.inr ⟨rfl, rfl⟩) a2.1 c39 hN
    unfold rdQ
    cases hr : rdS t 39 39 p with
    | inr w =>
      refine ⟨fun h p' hq => (nomatch hq), fun w' hq => ?_⟩
      cases hq
      obtain ⟨S2, s1, s2, s3, s4⟩ := r2 w hr
      rw [show (39 : Int32) = nI 39 from rfl, s1] at unf
      exact layI (k := (0, S2.1 86, S2.1 87, 0, 0)) (a2.2.1.f s4 (fun k h1 h2 _ _ z => by simp at z; omega)) (s4.mn (by decide)) s2 s3 unf
    | inl q =>
      refine ⟨fun h p' hq => ?_, fun w' hq => (nomatch hq)⟩
      cases hq
      obtain ⟨S2, s1, s2, s3, s4, s5, s6, s7⟩ := r1 q hr
      rw [show (39 : Int32) = nI 39 from rfl, s1] at unf
      refine lay (k := (0, S2.1 86, S2.1 87, 0, 0)) (x := (sNamed (sl t (p + 1) (q - (p + 1))), true)) (a2.t6 s2 s7 (fun k z => by simp at z; omega)) (s7.mn (by decide)) (by omega) (by omega) unf rfl (fun X P => Or.inl ⟨rfl, p + 1, q - (p + 1), s3, s4, by omega, by have := rdS_8 hr; omega⟩) fun rec X => ?_
      unfold selE
      simp only [s3, s4, nI_clamp (show p + 1 < 2 ^ 31 by omega), nI_clamp (show q - (p + 1) < 2 ^ 31 by omega), if_true]
  · rw [if_neg c39] at unf ⊢
    by_cases c42 : lk t p = 42
    · rw [if_pos c42] at unf ⊢
      refine ⟨fun h p' hq => ?_, fun w' hq => (nomatch hq)⟩
      cases hq
      have hlt := lk_lt c42 (by decide)
      exact lay (k := (1, 0, 0, 0, 0)) (x := (sAll, false)) a2.i (rF.rf.p (by decide)) (by omega) (by omega) unf rfl (fun X P => Or.inr (Or.inl rfl)) fun rec X => rfl
    · rw [if_neg c42] at unf ⊢
      -- places and stretches
      have stp : ∀ {q : Nat} {S2 : md_S} {hf : Bool} {v : Int32}, sm v → rR t q Q ((2, nI s, 0) :: td) (4 - nv) S2 → rF KR S1 S2 → p ≤ q → lk t q = 58 → PR = mo_readPlaces_j25 N (nI s) (bI hf) v 0 1 S2 →
          (∀ x p', qStr t hf v q = .inl (x, p') → ∃ Q', gdR t N p S ((2, nI s, 0) :: td) (4 - nv) p' Q' 8 0 ∧ p < p' ∧ p' ≤ t.length ∧ grwS 2 5 Q p Q' p' ∧ rlS t nv Q s Q' x) ∧ (∀ w, qStr t hf v q = .inr w → baR t N p S w 40) := by
        intro q S2 hf v hsv b f hq h58 e
        have hlt := lk_lt h58 (by decide)
        unfold mo_readPlaces_j25 at e
        rw [e_good b.1.2.2] at e
        simp only [md_bs] at e
        rw [if_neg (by decide), e_atp b.1 ht (by omega)] at e
        simp only [md_bs, aT_58 ht, md_lx] at e
        rw [if_pos h58, e_isNum ht b.i.1 (by omega)] at e
        simp only [md_bs, i01] at e
        unfold qStr exC
        rw [if_pos h58]
        -- behind the second number
        have thd : ∀ {q2 : Nat} {S3 : md_S} {hto : Bool} {v2 : Int32}, rR t q2 Q ((2, nI s, 0) :: td) (4 - nv) S3 → rF KR S1 S3 → q < q2 → q2 ≤ t.length → sm v2 → PR = mo_readPlaces_j85 N (nI s) (bI hf + (if hto = true then 2 else 0)) v v2 1 S3 →
            (∀ x p', (if lk t q2 = 58 then rB (qNum t 1 (q2 + 1)) fun st p3 => .inl ((sStr hf v hto v2 st.2, false), p3) else .inl ((sStr hf v hto v2 1, false), q2) : ((dSel × Bool) × Nat) ⊕ Nat) = .inl (x, p') → ∃ Q', gdR t N p S ((2, nI s, 0) :: td) (4 - nv) p' Q' 8 0 ∧ p < p' ∧ p' ≤ t.length ∧ grwS 2 5 Q p Q' p' ∧ rlS t nv Q s Q' x) ∧ (∀ w, (if lk t q2 = 58 then rB (qNum t 1 (q2 + 1)) fun st p3 => .inl ((sStr hf v hto v2 st.2, false), p3) else .inl ((sStr hf v hto v2 1, false), q2) : ((dSel × Bool) × Nat) ⊕ Nat) = .inr w → baR t N p S w 40) := by
          intro q2 S3 hto v2 b3 f3 hq2 hq2l hsv2 e3
          have sE : ∀ (st : Int32) rec X, selE t rec X (3, v, v2, st, bI hf + (if hto = true then 2 else 0)) = sStr hf v hto v2 st := fun st rec X => by
            unfold selE
            cases hf <;> cases hto <;> rfl
          have kK : ∀ (st : Int32), sm st → ∀ X P, okK t X P (3, v, v2, st, bI hf + (if hto = true then 2 else 0)) := fun st hst X P => Or.inr (Or.inr (Or.inr (Or.inl ⟨rfl, hsv, hsv2, hst, has4 hf hto⟩)))
          unfold mo_readPlaces_j85 mo_readPlaces_j131 mo_readPlaces_j133 at e3
          rw [e_good b3.1.2.2] at e3
          simp only [md_bs] at e3
          rw [if_neg (by decide), e_atp b3.1 ht (by omega)] at e3
          simp only [md_bs, aT_58 ht, md_lx] at e3
          by_cases g58 : lk t q2 = 58
          · rw [if_pos g58] at e3 ⊢
            have hlt2 := lk_lt g58 (by decide)
            rw [e_isNum ht b3.i.1 (by omega)] at e3
            simp only [md_bs, i01] at e3
            unfold qNum
            by_cases gn : isNm t (q2 + 1)
            · rw [if_neg (fun z => z gn)] at e3
              rw [if_pos gn]
              obtain ⟨r1, r2⟩ := e_readNumber ht (N := N) (lim := 3) (by decide) b3.i.1 (by omega) hN
              cases hr : rdN t 3 (q2 + 1) with
              | inr w =>
                refine ⟨fun h p' hq => (nomatch hq), fun w' hq => ?_⟩
                cases hq
                obtain ⟨v3, S4, s1, s2, s3, s4⟩ := r2 w hr
                rw [show (3 : Int32) = nI 3 from rfl, s1] at e3
                simp only [md_bs] at e3
                have ff : rF [6, 7] S3 S4 := (rF.rf.p (K := [6, 7]) (by decide)).tr s4 (fun _ z => z) (fun _ z => z)
                exact layI (k := (3, v, v2, v3, bI hf + (if hto = true then 2 else 0))) (b3.2.1.f ff (fun k h1 h2 _ _ z => by simp at z; omega)) (f3.tr ff (fun _ z => z) (by decide)) s2 s3 e3
              | inl q3 =>
                obtain ⟨v3, q3⟩ := q3
                refine ⟨fun h p' hq => ?_, fun w' hq => (nomatch hq)⟩
                cases hq
                obtain ⟨S4, s1, s2, s3, s4⟩ := r1 v3 q3 hr
                rw [show (3 : Int32) = nI 3 from rfl, s1] at e3
                simp only [md_bs] at e3
                have ff : rF [6] S3 S4 := (rF.rf.p (K := [6]) (by decide)).tr s4 (fun _ z => z) (fun _ z => z)
                have := rdN_lt hr
                exact lay (k := (3, v, v2, v3, bI hf + (if hto = true then 2 else 0))) (x := (sStr hf v hto v2 v3, false)) (b3.t6 s2 ff (fun k z => by simp at z; omega)) (f3.tr ff (fun _ z => z) (by decide)) (by omega) s3 e3 rfl (kK v3 (rdN_sm hr)) (sE v3)
            · rw [if_pos gn] at e3
              rw [if_neg gn]
              refine ⟨fun h p' hq => ?_, fun w' hq => (nomatch hq)⟩
              cases hq
              exact lay (k := (3, v, v2, 1, bI hf + (if hto = true then 2 else 0))) (x := (sStr hf v hto v2 1, false)) b3.i (f3.p (by decide)) (by omega) (by omega) e3 rfl (kK 1 (by unfold sm; decide)) (sE 1)
          · rw [if_neg g58] at e3 ⊢
            refine ⟨fun h p' hq => ?_, fun w' hq => (nomatch hq)⟩
            cases hq
            exact lay (k := (3, v, v2, 1, bI hf + (if hto = true then 2 else 0))) (x := (sStr hf v hto v2 1, false)) b3 f3 (by omega) (by omega) e3 rfl (kK 1 (by unfold sm; decide)) (sE 1)
        show (∀ x p', rB (qNum t 0 (q + 1)) _ = _ → _) ∧ (∀ w, rB (qNum t 0 (q + 1)) _ = _ → _)
        by_cases gn : isNm t (q + 1)
        · rw [if_neg (fun z => z gn)] at e
          have hqn : qNum t 0 (q + 1) = rB (rdN t 3 (q + 1)) fun v p1 => .inl ((true, v), p1) := by unfold qNum; rw [if_pos gn]
          rw [hqn]
          obtain ⟨r1, r2⟩ := e_readNumber ht (N := N) (lim := 3) (by decide) b.i.1 (by omega) hN
          cases hr : rdN t 3 (q + 1) with
          | inr w =>
            refine ⟨fun h p' hq => (nomatch hq), fun w' hq => ?_⟩
            cases hq
            obtain ⟨v3, S4, s1, s2, s3, s4⟩ := r2 w hr
            rw [show (3 : Int32) = nI 3 from rfl, s1] at e
            simp only [md_bs] at e
            unfold mo_readPlaces_j85 mo_readPlaces_j133 at e
            rw [e_ill s2 s3] at e
            simp only [md_bs, if_true] at e
            have ff : rF [6, 7] S2 S4 := (rF.rf.p (K := [6, 7]) (by decide)).tr s4 (fun _ z => z) (fun _ z => z)
            exact layI (k := (3, v, v3, 1, bI hf + 2)) (b.2.1.f ff (fun k h1 h2 _ _ z => by simp at z; omega)) (f.tr ff (fun _ z => z) (by decide)) s2 s3 e
          | inl q3 =>
            obtain ⟨v3, q3⟩ := q3
            obtain ⟨S4, s1, s2, s3, s4⟩ := r1 v3 q3 hr
            rw [show (3 : Int32) = nI 3 from rfl, s1] at e
            simp only [md_bs] at e
            have ff : rF [6] S2 S4 := (rF.rf.p (K := [6]) (by decide)).tr s4 (fun _ z => z) (fun _ z => z)
            have := rdN_lt hr
            exact thd (hto := true) (v2 := v3) (b.t6 s2 ff (fun k z => by simp at z; omega)) (f.tr ff (fun _ z => z) (by decide)) (by omega) s3 (rdN_sm hr) e
        · rw [if_pos gn] at e
          have hqn : qNum t 0 (q + 1) = .inl ((false, 0), q + 1) := by unfold qNum; rw [if_neg gn]
          rw [hqn]
          exact thd (hto := false) (v2 := 0) b.i (f.p (by decide)) (by omega) (by omega) (by unfold sm; decide) (by rw [e]; rw [if_neg (by decide), Int32.add_zero])
      by_cases c63 : lk t p = 63
      · have n58 : ¬ lk t p = 58 := by omega
        have nnm : ¬ isNm t p := by unfold isNm isDg; omega
        rw [if_neg n58, if_pos nnm, if_pos c63] at unf
        rw [if_pos c63]
        have hlt := lk_lt c63 (by decide)
        have hnc : (qc Q).1 < 50 := by omega
        have e29 : ∀ {S2 : md_S}, rC Q S2 → S2.1 29 = nI (qc Q).1 := fun h => h.1.2.2.2.1
        cases nv with
        | zero =>
          refine ⟨fun h p' hq => (nomatch hq), fun w' hq => ?_⟩
          cases hq
          obtain ⟨S2, b1, b2, b3, b4, b5⟩ := (e_opens a2 (by omega)).2 rfl
          rw [b1] at unf
          simp only [md_cs, md_lx] at unf
          have f3 : rF [6] S2 (md_p S2 6 (S2.1 6 + 1)) := rF.rf.p (by decide)
          have C3 : rC Q (md_p S2 6 (S2.1 6 + 1)) := b3.f f3 (fun k h1 h2 _ _ z => by simp at z; omega)
          have e3 := e29 C3
          simp only [e3, if_pos (nI_in hnc (by omega)), nI_clamp (show (qc Q).1 < 2 ^ 31 by omega), md_w1] at unf
          obtain ⟨S4, c1, c2, c3⟩ := e_newSel (x2 := 4) (x3 := nI (qc Q).1) (x4 := 0) (x5 := 0) (x6 := 0) (C3.c0 (v := -1)) hs (by omega)
          rw [c1] at unf
          simp only [md_bs] at unf
          have f4 : rF KR S2 S4 := ((rF.rf.p (K := KR) (k := 6) (v := S2.1 6 + 1) (by decide)).w (k := 49) (i := (qc Q).1) (v := -1) (by decide)).tr c3 (fun _ z => z) (by decide)
          have f4' : rF ([6, 49] ++ [28, 38, 39, 40, 43, 44, 45, 46, 47, 48]) S2 S4 := ((rF.rf.p (k := 6) (v := S2.1 6 + 1) (by decide)).w (k := 49) (i := (qc Q).1) (v := -1) (by decide)).tr c3 (fun _ z => z) (by decide)
          obtain ⟨S5, d1, d2, d3⟩ := e_push (x := 19) (y := 0) (z := 0) (b4.f f4' (by decide) (by decide) (by decide) (by decide)) (by simp; omega)
          rw [d1] at unf
          simp only [md_cs] at unf
          have e5 : S5.1 29 = nI (qc Q).1 := by rw [(d3 29 (by decide)).1, (f4' 29 (by decide)).1]; exact e29 b3
          rw [e5] at unf
          obtain ⟨S6, g1, g2, g3⟩ := e_push (x := 3) (y := nI (qc Q).1) (z := 0) d2 (by simp; omega)
          rw [g1] at unf
          simp only [md_cs] at unf
          refine ill unf ?_ (by omega) (((((b5.mn (K := KR) (by decide)).tr f4 (fun _ z => z) (fun _ z => z)).tr d3 (fun _ z => z) (by decide)).tr g3 (fun _ z => z) (by decide)).p (by decide))
          unfold rI
          rw [md_p1, if_neg (by decide), (g3 7 (by decide)).1, (d3 7 (by decide)).1, (f4' 7 (by decide)).1]; exact b2
        | succ m =>
          obtain ⟨S2, b1, b2, b3⟩ := (e_opens a2 (by omega)).1 (by omega)
          rw [b1] at unf
          simp only [md_cs, md_lx] at unf
          have hR3 := b2.i
          have C3 := hR3.2.1
          have e3 := e29 C3
          simp only [e3, if_pos (nI_in hnc (by omega)), nI_clamp (show (qc Q).1 < 2 ^ 31 by omega), md_w1] at unf
          have fw : rF [49] (md_p S2 6 (S2.1 6 + 1)) (md_w (md_p S2 6 (S2.1 6 + 1)) 49 (qc Q).1 (-1)) := rF.rf.w (by decide)
          have hR4 : rR t (p + 1) Q ((2, nI s, 0) :: td) (4 - (m + 1) + 1) (md_w (md_p S2 6 (S2.1 6 + 1)) 49 (qc Q).1 (-1)) := ⟨hR3.1.f fw (by decide) (by decide) (by decide) (by decide), C3.c0, hR3.2.2.1.f fw (by decide) (by decide) (by decide) (by decide), hR3.2.2.2⟩
          obtain ⟨S4, c1, c2, c3⟩ := hR4.sel (s := s) (x2 := 4) (x3 := nI (qc Q).1) (x4 := 0) (x5 := 0) (x6 := 0) hs (by omega)
          rw [c1] at unf
          simp only [md_bs] at unf
          obtain ⟨S5, d1, d2, d3⟩ := c2.push (x := 19) (y := 0) (z := 0) (by simp; omega)
          rw [d1] at unf
          simp only [md_cs] at unf
          have e5 : S5.1 29 = nI (qc Q).1 := d2.2.1.1.2.2.2.1
          rw [e5] at unf
          obtain ⟨S6, g1, g2, g3⟩ := d2.push (x := 3) (y := nI (qc Q).1) (z := 0) (by simp; omega)
          rw [g1] at unf
          simp only [md_cs] at unf
          have e6 : S6.1 29 = nI (qc Q).1 := g2.2.1.1.2.2.2.1
          rw [e6, nI_1] at unf
          have e49 : S6.2 49 (qc Q).1 = -1 := by
            rw [(g3 49 (by decide)).2, (d3 49 (by decide)).2, (c3 49 (by decide)).2]
            exact md_w_s
          obtain ⟨S7, hS7⟩ : ∃ S7, S7 = md_p S6 29 (nI ((qc Q).1 + 1)) := ⟨_, rfl⟩
          have f7 : rF [29] S6 S7 := by rw [hS7]; exact rF.rf.p (by decide)
          have hC7 : rC (nCnd (nSel Q s (4, nI (qc Q).1, 0, 0, 0))) S7 := by
            rw [hS7]
            exact rC.c1 g2.2.1 e49 hnc
          have hR7 : rR t (p + 1) (nCnd (nSel Q s (4, nI (qc Q).1, 0, 0, 0))) ((3, nI (qc Q).1, 0) :: (19, 0, 0) :: (2, nI s, 0) :: td) (4 - m) S7 := by
            refine ⟨g2.1.f f7 (by decide) (by decide) (by decide) (by decide), hC7, g2.2.2.1.f f7 (by decide) (by decide) (by decide) (by decide), ?_⟩
            rw [(f7 31 (by decide)).1, g2.2.2.2]
            congr 1
            omega
          rw [← hS7] at unf
          have fS7 : rF KR S S7 := ((((((f1.tr b3 (fun _ z => z) (by decide)).p (by decide)).tr fw (fun _ z => z) (by decide)).tr c3 (fun _ z => z) (by decide)).tr d3 (fun _ z => z) (by decide)).tr g3 (fun _ z => z) (by decide)).tr f7 (fun _ z => z) (by decide)
          have hs7 : ∀ n, qL N (n + 1) S = qL N n S7 := fun n => by rw [hst, unf]; rfl
          obtain ⟨k1, k2⟩ := hlo m rfl (p + 1) (nCnd (nSel Q s (4, nI (qc Q).1, 0, 0, 0))) (qc Q).1 ((19, 0, 0) :: (2, nI s, 0) :: td) S7 hR7 (Nat.lt_succ_self _) ⟨by show 5 * (qp Q).1 ≤ _; omega, by show 13 * ((qc Q).1 + 1) ≤ _; omega, by show (qg Q).1 ≤ _; omega, by show (qk Q).1 + 1 ≤ _; omega, by show (qo Q).1 ≤ _; omega⟩ (by simp; omega) (by omega)
          show (∀ x p', rB (qAny t (qLv t m).1 (p + 1)) _ = _ → _) ∧ (∀ w, rB (qAny t (qLv t m).1 (p + 1)) _ = _ → _)
          cases hr : qAny t (qLv t m).1 (p + 1) with
          | inr w =>
            refine ⟨fun h p' hq => (nomatch hq), fun w' hq => ?_⟩
            cases hq
            exact (k2 w hr).of (k := 1) (by omega) hs7 fS7
          | inl q =>
            obtain ⟨d, p1⟩ := q
            refine ⟨fun h p' hq => ?_, fun w' hq => (nomatch hq)⟩
            cases hq
            obtain ⟨Q1, ⟨k, S8, x1, x2, x3, x4⟩, y1, y2, ⟨i1, i2, i3, i4, i5⟩, y4⟩ := k1 d p1 hr
            obtain ⟨kp, ol, hol, sem, ok⟩ := y4
            have i1' : 5 * (qp Q1).1 + 2 * (p + 1) ≤ 2 * p1 + 5 * (qp Q).1 + 4 := i1
            have i2' : 13 * (qc Q1).1 + 4 * (p + 1) + 4 ≤ 4 * p1 + 13 * ((qc Q).1 + 1) := i2
            have i3' : (qg Q1).1 + (p + 1) ≤ (qg Q).1 + p1 := i3
            have i4' : (qk Q1).1 + (p + 1) ≤ (qk Q).1 + 1 + p1 := i4
            have i5' : (qo Q1).1 + (p + 1) ≤ (qo Q).1 + p1 := i5
            have hR9 : rR t p1 Q1 ((2, nI s, 0) :: td) (4 - (m + 1) + 1) (md_p S8 55 (nI ((2, nI s, 0) :: td : tdL).length)) := by
              rw [show 4 - (m + 1) + 1 = 4 - m by omega]; exact x3.pop
            have kps : kpQ none (some s) none Q (nCnd (nSel Q s (4, nI (qc Q).1, 0, 0, 0))) := (kp_sel (s := s)).tr kp_cnd (fun b z => (nomatch z)) (fun b z => (nomatch z)) (fun b z => (nomatch z))
            have hkQ : kpQ none (some s) none Q Q1 := kps.tr kp (fun b z => (nomatch z)) (fun b z => (nomatch z)) (fun b z h => by cases z; exact absurd h (Nat.lt_irrefl _))
            have ekk : (qk Q1).2 (qk Q).1 = (4, nI (qc Q).1, 0, 0, 0) := (kp.2.2.2.1 (qk Q).1 (Nat.lt_succ_self _)).trans updL_s
            have hgs : (qg Q1).2.2 s = (qg Q).2.2 s ++ [(qk Q).1] := ((kp.2.2.1 s hs).2 (fun z => nomatch z)).trans updL_s
            have hcc : (qc Q1).2 (qc Q).1 = ol := by
              rw [hol]
              show updL (qc Q).2 (qc Q).1 [] (qc Q).1 ++ ol = ol
              rw [updL_s]; rfl
            refine ⟨Q1, ⟨1 + (k + 1), md_p (md_p S8 55 (nI ((2, nI s, 0) :: td : tdL).length)) 31 ((md_p S8 55 (nI ((2, nI s, 0) :: td : tdL).length)).1 31 - 1), by omega, fun n => ?_, hR9.down, ((fS7.tr x4 (fun _ z => z) (fun _ z => z)).p (by decide)).p (by decide)⟩, by omega, y2, ⟨by omega, by omega, by omega, by omega, by omega⟩, hkQ, Nat.lt_of_lt_of_le (Nat.lt_succ_self _) kp.1.2.2.1, hgs, by rw [ekk]; rfl, fun X hX f hf => ?_, fun X hX hL => ?_⟩
            · rw [show n + (1 + (k + 1)) = ((n + 1) + k) + 1 by omega, hs7, x2, qL_st x3.1.2.2 x3.2.2.1]
              simp only [rqe19]
              rfl
            · have eX : (qk X).2 (qk Q).1 = (4, nI (qc Q).1, 0, 0, 0) := (hX.2.2.1 (qk Q).1 (Nat.le_refl _) (Nat.lt_of_lt_of_le (Nat.lt_succ_self _) kp.1.2.2.1)).trans ekk
              have eC : (qc X).2 (qc Q).1 = ol := (hX.2.2.2.1 (qc Q).1 (Nat.le_refl _) (Nat.lt_of_lt_of_le (Nat.lt_succ_self _) kp.1.2.2.2.1)).trans hcc
              have hX1 : agr (nCnd (nSel Q s (4, nI (qc Q).1, 0, 0, 0))) Q1 X := hX.sub kps.1 leQ.rf agr.rf
              rw [eX]
              unfold selE
              simp only [if_neg (show ¬ ((4 : Int32) = 0) by decide), if_neg (show ¬ ((4 : Int32) = 1) by decide), if_neg (show ¬ ((4 : Int32) = 2) by decide), if_neg (show ¬ ((4 : Int32) = 3) by decide), nI_clamp (show (qc Q).1 < 2 ^ 31 by omega), eC]
              congr 1
              funext D n
              unfold cndE
              rw [sem X hX1 f hf, eB_a]
              refine (eB_ce fun b => ?_).trans eB_p
              rw [eB_s]
              show some (isT _ (tru b), 0) = _
              rw [isT_tru]
            · have eX : (qk X).2 (qk Q).1 = (4, nI (qc Q).1, 0, 0, 0) := (hX.2.2.1 (qk Q).1 (Nat.le_refl _) (Nat.lt_of_lt_of_le (Nat.lt_succ_self _) kp.1.2.2.1)).trans ekk
              have eC : (qc X).2 (qc Q).1 = ol := (hX.2.2.2.1 (qc Q).1 (Nat.le_refl _) (Nat.lt_of_lt_of_le (Nat.lt_succ_self _) kp.1.2.2.2.1)).trans hcc
              have hX1 : agr (nCnd (nSel Q s (4, nI (qc Q).1, 0, 0, 0))) Q1 X := hX.sub kps.1 leQ.rf agr.rf
              have k1 := ok X hX1 hL
              rw [eX]
              refine Or.inr (Or.inr (Or.inr (Or.inr ⟨rfl, (qc Q).1, Nat.lt_of_lt_of_le (Nat.lt_succ_self _) (kp.1.tr hL).2.2.2.1, rfl, ?_, ?_⟩)))
              · rw [eC]; exact k1.1 0 (by omega)
              · rw [eC]; exact k1.2
      · rw [if_neg c63]
        by_cases c58 : lk t p = 58
        · rw [if_pos c58] at unf ⊢
          refine stp (hf := false) (v := 0) (by unfold sm; decide) a2 rF.rf (Nat.le_refl _) c58 ?_
          rw [unf]
          unfold mo_readPlaces
          rw [e_isNum ht a2.1 hp]
          simp only [md_bs, i01]
          rw [if_pos (show ¬ isNm t p by unfold isNm isDg; omega)]
          rfl
        · rw [if_neg c58] at unf ⊢
          by_cases gn : isNm t p
          · rw [if_neg (fun z => z gn)] at unf
            unfold mo_readPlaces at unf
            rw [e_isNum ht a2.1 hp] at unf
            simp only [md_bs, i01] at unf
            rw [if_neg (fun z => z gn)] at unf
            obtain ⟨r1, r2⟩ := e_readNumber ht (N := N) (lim := 3) (by decide) a2.1 hp hN
            cases hr : rdN t 3 p with
            | inr w =>
              refine ⟨fun h p' hq => (nomatch hq), fun w' hq => ?_⟩
              cases hq
              obtain ⟨v3, S4, s1, s2, s3, s4⟩ := r2 w hr
              rw [show (3 : Int32) = nI 3 from rfl, s1] at unf
              simp only [md_bs] at unf
              unfold mo_readPlaces_j25 at unf
              rw [e_ill s2 s3] at unf
              simp only [md_bs, if_true] at unf
              exact ill unf s2 s3 (s4.mn (by decide))
            | inl q3 =>
              obtain ⟨v3, q3⟩ := q3
              obtain ⟨S4, s1, s2, s3, s4⟩ := r1 v3 q3 hr
              have hl := rdN_lt hr
              rw [show (3 : Int32) = nI 3 from rfl, s1] at unf
              simp only [md_bs] at unf
              have hR4 := a2.t6 s2 s4 (fun k z => by simp at z; omega)
              show (∀ x p', (if lk t q3 = 58 then qStr t true v3 q3 else _) = _ → _) ∧ (∀ w, (if lk t q3 = 58 then qStr t true v3 q3 else _) = _ → _)
              by_cases g58 : lk t q3 = 58
              · rw [if_pos g58]
                exact stp (hf := true) (v := v3) (rdN_sm hr) hR4 (s4.mn (by decide)) (by omega) g58 unf
              · rw [if_neg g58]
                refine ⟨fun h p' hq => ?_, fun w' hq => (nomatch hq)⟩
                cases hq
                unfold mo_readPlaces_j25 at unf
                rw [e_good hR4.1.2.2] at unf
                simp only [md_bs] at unf
                rw [if_neg (by decide), e_atp hR4.1 ht (by omega)] at unf
                simp only [md_bs, aT_58 ht] at unf
                rw [if_neg g58] at unf
                exact lay (k := (2, v3, 0, 0, 0)) (x := (sPlace v3, true)) hR4 (s4.mn (by decide)) hl s3 unf rfl (fun X P => Or.inr (Or.inr (Or.inl ⟨rfl, rdN_sm hr⟩))) fun rec X => rfl
          · rw [if_pos gn, if_neg c63, e_fail a2.1.2.2] at unf
            have hr : rdN t 3 p = .inr p := by
              have gn' : ¬ ((48 ≤ lk t p ∧ lk t p ≤ 57) ∨ lk t p = 45) := gn
              unfold rdN
              simp only [if_neg (show ¬ lk t p = 45 by omega)]
              rw [if_neg (show ¬ (lk t p ≠ 45 ∧ lk t p = 48) by omega), if_pos (Or.inl (show ¬ isDg t p by unfold isDg; omega))]
            rw [hr]
            refine ⟨fun h p' hq => (nomatch hq), fun w' hq => ?_⟩
            cases hq
            refine ill unf ?_ (by omega) (rF.rf.p (by decide))
            unfold rI
            rw [md_p1, if_pos rfl]; exact a2.1.2.1
