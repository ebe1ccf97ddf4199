theorem rR.x {t : List Nat} {p : Nat} {Q : cQ} {td : tdL} {ne : Nat} {S : md_S} (h : rR t p Q td ne S) : rX t S := h.1.1
theorem ent.no {e al p : Nat} {Q : cQ} (h : ent e al p Q) (hp : p ≤ 160) : (qo Q).1 < 170 ∧ (qg Q).1 < 170 ∧ (qk Q).1 < 170 := by
  obtain ⟨h1, h2, h3, h4, h5⟩ := h
  omega
theorem ent.np {e al p : Nat} {Q : cQ} (h : ent e al p Q) (hp : p ≤ 160) (ha : al ≤ 4) : (qp Q).1 < 100 := by
  obtain ⟨h1, h2, h3, h4, h5⟩ := h
  omega
/-- one op more says a value -/
theorem semV_op {t : List Nat} {nv : Nat} {Q : cQ} {c : Nat} {o : Int32 × Int32 × Int32} {h : dThg} (hh : ∀ rec D n st, opE t rec o D n st = eB (h D n) fun v => some (v :: st, 0)) (ho : ∀ P, okO t P o) (h1 : ¬ (o.1 = 3 ∨ o.1 = 8)) (h2 : ¬ (o.1 = 7 ∨ o.1 = 9 ∨ o.1 = 10)) : rlV t nv Q c (nOp Q c o) h := by
  have e : ∀ X, agr Q (nOp Q c o) X → (qo X).2 (qo Q).1 = o := fun X hX => (hX.2.2.2.2 (qo Q).1 (Nat.le_refl _) (Nat.lt_succ_self _)).trans updL_s
  refine ⟨kp_op, [(qo Q).1], updL_s, fun X hX f hf D n st => ?_, fun X hX hL => okE_1 (e X hX) (ho _) h1 h2 (Nat.le_refl _)⟩
  show eB (opE t (evP t X f) ((qo X).2 (qo Q).1) D n st) (fun st' => some (st', 0)) = _
  rw [eB_p, e X hX, hh]
theorem rdP_q {t : List Nat} {p : Nat} (h : lk t p = 39) : rdP t 39 39 p = (match rdS t 39 39 p with
    | .inl p' => .inl (4, nI (p' - (p + 1)), (t.drop (p + 1)).take (p' - (p + 1)), p' + 1)
    | .inr w => .inr w) := by
  unfold rdP
  rw [if_pos h]
  rcases rdS t 39 39 p with q | w <;> rfl
theorem rdP_n {t : List Nat} {p : Nat} (h1 : lk t p ≠ 39) (h2 : lk t p ≠ 110) (h3 : lk t p ≠ 102) (h4 : lk t p ≠ 116) : rdP t 39 39 p = (match rdN t 6 p with
    | .inl (v, p') => .inl (3, v, [], p')
    | .inr w => .inr w) := by
  unfold rdP
  rw [if_neg h1, if_neg h2, if_neg h3, if_neg h4]
  rcases rdN t 6 p with ⟨v, q⟩ | w <;> rfl
/-- nested goes down by one -/
theorem rR.down {t : List Nat} {p : Nat} {Q : cQ} {td : tdL} {ne : Nat} {S : md_S} (h : rR t p Q td (ne + 1) S) : rR t p Q td ne (md_p S 31 (S.1 31 - 1)) := by
  have f : rF [31] S (md_p S 31 (S.1 31 - 1)) := rF.rf.p (by decide)
  refine ⟨h.1.f f (by decide) (by decide) (by decide) (by decide), h.2.1.f f (fun k h1 h2 h3 _ z => by simp at z; omega), h.2.2.1.f f (by decide) (by decide) (by decide) (by decide), ?_⟩
  rw [md_p1, if_pos rfl, h.2.2.2, nI_pred]
theorem rR.need {t : List Nat} (ht : tOk t) {p c : Nat} {Q : cQ} {td : tdL} {ne : Nat} {S : md_S} (h : rR t p Q td ne S) (hp : p ≤ t.length) (h0 : c ≠ 0) (hc : c < 1000) : (lk t p = c ∧ ∃ S', mo_need (nI c) S = some S' ∧ rR t (p + 1) Q td ne S' ∧ rF [6] S S') ∨ (lk t p ≠ c ∧ ∃ S', mo_need (nI c) S = some S' ∧ rI p S' ∧ rC Q S' ∧ rF [7] S S') := by
  rcases e_need ht h.1 hp h0 hc with ⟨e, S', a, b, f⟩ | ⟨e, S', a, b, f⟩
  · exact Or.inl ⟨e, S', a, h.t6 b f (fun k z => by simp at z; omega), f⟩
  · exact Or.inr ⟨e, S', a, b, h.2.1.f f (fun k h1 h2 h3 _ z => by simp at z; omega), f⟩
theorem agr.kp {pa sg cc : Option Nat} {A B C X : cQ} (h : agr A C X) (k : kpQ pa sg cc B C) (h0 : leQ A B) (h1 : ∀ b, pa = some b → b < (qp A).1) (h2 : ∀ b, sg = some b → b < (qg A).1) (h3 : ∀ b, cc = some b → b < (qc A).1) : agr A B X := h.sub leQ.rf k.1 (k.agr h1 h2 h3)
theorem kpQ.wk {pa sg cc : Option Nat} {Q Q' : cQ} (h : kpQ none none none Q Q') : kpQ pa sg cc Q Q' := by
  obtain ⟨a1, a2, a3, a4, a5, a6⟩ := h
  exact ⟨a1, fun b hb => ⟨(a2 b hb).1, fun _ => (a2 b hb).2 (fun z => nomatch z)⟩, fun b hb => ⟨(a3 b hb).1, fun _ => (a3 b hb).2 (fun z => nomatch z)⟩, a4, fun b hb _ => a5 b hb (fun z => nomatch z), a6⟩
theorem exW_len {t v : List Nat} (hv : ∀ j, j < v.length → lk v j ≠ 0) : ∀ {m i q q' : Nat}, exW t v m i q = .inl q' → q + m = q' := by
  intro m
  induction m with
  | zero => intro i q q' z; cases z; rfl
  | succ m ih =>
    intro i q q' z
    rw [exW] at z
    split at z
    · have := ih z; omega
    · cases z
theorem THl {t : List Nat} (ht : tOk t) {N nv : Nat} (hN : 161 ≤ N) (hnv : nv ≤ 4) (hP : PT t N nv) (hlo : ∀ m, nv = m + 1 → TH t N m ∧ PT t N m) : TH t N nv := by
  have h160 := ht.1
  intro p Q c td S hR hc hE htd hp
  have hno := hE.no (by omega)
  have hnp := hE.np (by omega) (by omega)
  have hR0 := hR.pop
  obtain ⟨S0, hS0⟩ : ∃ S0, S0 = md_p S 55 (nI td.length) := ⟨_, rfl⟩
  have hst : ∀ n, qL N (n + 1) S = md_c (mo_readThing N (nI c) S0) fun S' => qL N n S' := fun n => by
    rw [qL_st hR.1.2.2 hR.2.2.1, rqp14, hS0]
  have f0 : rF KR S S0 := by
    rw [hS0]
    exact rF.rf.p (by decide)
  rw [← hS0] at hR0
  have ill : ∀ {w : Nat} {S' : md_S}, mo_readThing N (nI c) S0 = some S' → rI w S' → w < 1000 → rF KR S0 S' → baR t N p S w 39 := fun {w S'} a b d f => by
    refine ⟨2, S', by omega, fun n => ?_, b, d, f0.tr f (fun _ z => z) (fun _ z => z)⟩
    rw [show n + 2 = (n + 1) + 1 from rfl, hst, a]
    exact qL_ill hN b d
  have leafI : ∀ {w : Nat} {S1 : md_S} {o : Int32 × Int32 × Int32}, rC Q S1 → rI w S1 → w < 1000 → rF KR S0 S1 → mo_readThing N (nI c) S0 = mo_emit (nI c) o.1 o.2.1 o.2.2 S1 → baR t N p S w 39 := fun {w S1 o} a b d f e => by
    obtain ⟨S2, x, y, z⟩ := e_emit (x2 := o.1) (x3 := o.2.1) (x4 := o.2.2) a hc hno.1
    refine ill (e.trans x) (by unfold rI; rw [(z 7 (by decide)).1]; exact b) d (f.tr z (fun _ z => z) (by decide))
  have leafG : ∀ {p1 : Nat} {S1 : md_S} {o : Int32 × Int32 × Int32} {h : dThg}, rR t p1 Q td (4 - nv) S1 → p < p1 → p1 ≤ t.length → rF KR S0 S1 → mo_readThing N (nI c) S0 = mo_emit (nI c) o.1 o.2.1 o.2.2 S1 → (∀ P, okO t P o) → ¬ (o.1 = 3 ∨ o.1 = 8) → ¬ (o.1 = 7 ∨ o.1 = 9 ∨ o.1 = 10) → (∀ rec D n st, opE t rec o D n st = eB (h D n) fun v => some (v :: st, 0)) → ∃ Q', gdR t N p S td (4 - nv) p1 Q' 7 0 ∧ p < p1 ∧ p1 ≤ t.length ∧ grw 3 4 Q p Q' p1 ∧ rlV t nv Q c Q' h := fun {p1 S1 o h} a b d f e g1 g2 g3 g => by
    obtain ⟨S2, x, y, z⟩ := a.op (c := c) (x2 := o.1) (x3 := o.2.1) (x4 := o.2.2) hc hno.1
    refine ⟨nOp Q c o, ⟨1, S2, by omega, fun n => ?_, y, (f0.tr f (fun _ z => z) (fun _ z => z)).tr z (fun _ z => z) (by decide)⟩, b, d, ⟨by show 5 * (qp Q).1 + _ ≤ _; omega, by show 13 * (qc Q).1 + _ + _ ≤ _; omega, by show (qg Q).1 + _ ≤ _; omega, by show (qk Q).1 + _ ≤ _; omega, by show (qo Q).1 + 1 + _ ≤ _; omega⟩, semV_op g g1 g2 g3⟩
    rw [hst, e, x]
    rfl
  rw [qLv_eq]
  show (∀ h p', qThg t (loV t nv) p = .inl (h, p') → _) ∧ (∀ w, qThg t (loV t nv) p = .inr w → _)
  unfold qThg
  unfold mo_readThing at hst ill leafI leafG
  simp only [md_ci] at hst ill leafI leafG
  rw [e_atp hR0.1 ht (by omega)] at hst ill leafI leafG
  simp only [md_bs, aT_39 ht, aT_116 ht, aT_102 ht, aT_110 ht, aT_108 ht, aT_99 ht] at hst ill leafI leafG
  by_cases c39 : lk t p = 39
  · -- a string
    rw [if_pos c39] at hst ill leafI leafG
    rw [if_neg (by unfold isPt; omega), if_neg (by omega), if_neg (by omega), rdP_q c39]
    obtain ⟨r1, r2⟩ := e_readString ht (N := N) (qt := 39) (br := 39) (x2 := -1) (by decide) (by decide) (Or.inr ⟨rfl, rfl⟩) hR0.1 c39 hN
    cases hr : rdS t 39 39 p with
    | inr w =>
      refine ⟨fun h p' hq => (nomatch hq), fun w' hq => ?_⟩
      cases hq
      obtain ⟨S1, s1, s2, s3, s4⟩ := r2 w hr
      rw [show (39 : Int32) = nI 39 from rfl, s1] at leafI
      refine leafI (o := (5, S1.1 86, S1.1 87)) (hR0.2.1.f s4 (fun k h1 h2 _ _ z => by simp at z; omega)) s2 s3 (s4.mn (by decide)) ?_
      rfl
    | inl q =>
      refine ⟨fun h p' hq => ?_, fun w' hq => (nomatch hq)⟩
      cases hq
      obtain ⟨S1, s1, s2, s3, s4, s5, s6, s7⟩ := r1 q hr
      rw [show (39 : Int32) = nI 39 from rfl, s1] at leafG
      refine leafG (o := (5, S1.1 86, S1.1 87)) (hR0.t6 s2 s7 (fun k z => by simp at z; omega)) (by omega) (by omega) (s7.mn (by decide)) rfl (fun P => Or.inr (Or.inr (Or.inr (Or.inl ⟨rfl, p + 1, q - (p + 1), s3, s4, by omega, by have := rdS_8 hr; omega⟩)))) (show ¬ ((5 : Int32) = 3 ∨ (5 : Int32) = 8) by decide) (show ¬ ((5 : Int32) = 7 ∨ (5 : Int32) = 9 ∨ (5 : Int32) = 10) by decide) fun rec D n st => ?_
      rw [s3, s4]
      unfold opE wrtV
      rw [eB_s]
      simp only [nI_clamp (show p + 1 < 2 ^ 31 by omega), nI_clamp (show q - (p + 1) < 2 ^ 31 by omega)]
      rfl
  · rw [if_neg c39, e_isNum ht hR0.1 hp] at hst ill leafI leafG
    simp only [md_bs, i01] at hst ill leafI leafG
    by_cases cn : isNm t p
    · -- a number
      rw [if_neg (fun z => z cn)] at hst ill leafI leafG
      have hcc : (48 ≤ lk t p ∧ lk t p ≤ 57) ∨ lk t p = 45 := cn
      rw [if_neg (by unfold isPt; omega), if_neg (by omega), if_neg (by omega), rdP_n (by omega) (by omega) (by omega) (by omega)]
      obtain ⟨r1, r2⟩ := e_readNumber ht (N := N) (lim := 6) (by decide) hR0.1 hp hN
      cases hr : rdN t 6 p with
      | inr w =>
        refine ⟨fun h p' hq => (nomatch hq), fun w' hq => ?_⟩
        cases hq
        obtain ⟨v, S1, s1, s2, s3, s4⟩ := r2 w hr
        rw [show (6 : Int32) = nI 6 from rfl, s1] at leafI
        exact leafI (o := (4, v, 0)) (hR0.2.1.f s4 (fun k h1 h2 _ _ z => by simp at z; omega)) s2 s3 (s4.mn (by decide)) rfl
      | inl q =>
        obtain ⟨v, q⟩ := q
        refine ⟨fun h p' hq => ?_, fun w' hq => (nomatch hq)⟩
        cases hq
        obtain ⟨S1, s1, s2, s3, s4⟩ := r1 v q hr
        rw [show (6 : Int32) = nI 6 from rfl, s1] at leafG
        refine leafG (o := (4, v, 0)) (hR0.t6 s2 s4 (fun k z => by simp at z; omega)) (rdN_lt hr) s3 (s4.mn (by decide)) rfl (fun P => Or.inr (Or.inr (Or.inl rfl))) (show ¬ ((4 : Int32) = 3 ∨ (4 : Int32) = 8) by decide) (show ¬ ((4 : Int32) = 7 ∨ (4 : Int32) = 9 ∨ (4 : Int32) = 10) by decide) fun rec D n st => ?_
        unfold wrtV
        rw [eB_s]
        rfl
    · rw [if_pos cn] at hst ill leafI leafG
      have hncn : ¬ ((48 ≤ lk t p ∧ lk t p ≤ 57) ∨ lk t p = 45) := cn
      -- a word
      have wd : ∀ {v : List Nat} {k : Int32} {x1 : Int64}, (∀ m, m < v.length → (x1 >>> ((8 * nI m).toInt64 &&& 63) &&& 255).toInt32 = nI (lk v (v.length - 1 - m))) → (∀ j, j < v.length → lk v j ≠ 0 ∧ lk v j < 128) → v.length < 50 → 0 < v.length → lk t p = lk v 0 → (k = 0 ∨ k = 1 ∨ k = 2) → mo_readThing N (nI c) S0 = (md_c (mo_word N x1 (nI v.length) S0) fun S1 => mo_emit (nI c) 6 k 0 S1) →
          (∀ h p', (match rdW t v k p with | .inr w => .inr w | .inl (kd, sz, tx, p1) => .inl (wrtV (kd, sz, tx), p1) : (dThg × Nat) ⊕ Nat) = .inl (h, p') → ∃ Q', gdR t N p S td (4 - nv) p' Q' 7 0 ∧ p < p' ∧ p' ≤ t.length ∧ grw 3 4 Q p Q' p' ∧ rlV t nv Q c Q' h) ∧ (∀ w, (match rdW t v k p with | .inr w => .inr w | .inl (kd, sz, tx, p1) => .inl (wrtV (kd, sz, tx), p1) : (dThg × Nat) ⊕ Nat) = .inr w → baR t N p S w 39) := by
        intro v k x1 hx hv hv2 hv3 hpv hk3 hrd
        unfold mo_readThing at hrd
        simp only [md_ci] at hrd
        rw [e_atp hR0.1 ht (by omega)] at hrd
        simp only [md_bs, aT_39 ht, aT_116 ht, aT_102 ht, aT_110 ht, aT_108 ht, aT_99 ht] at hrd
        rw [if_neg c39, e_isNum ht hR0.1 hp] at hrd
        simp only [md_bs, i01] at hrd
        rw [if_pos cn] at hrd
        obtain ⟨r1, r2⟩ := e_word ht (N := N) hx hv hv2 hR0.1 hp hN
        unfold rdW
        cases hr : exW t v v.length 0 p with
        | inr w =>
          refine ⟨fun h p' hq => (nomatch hq), fun w' hq => ?_⟩
          cases hq
          obtain ⟨S1, s1, s2, s3, s4⟩ := r2 w hr
          rw [s1] at hrd
          exact leafI (o := (6, k, 0)) (hR0.2.1.f s4 (fun k h1 h2 _ _ z => by simp at z; omega)) s2 s3 (s4.mn (by decide)) hrd
        | inl q =>
          refine ⟨fun h p' hq => ?_, fun w' hq => (nomatch hq)⟩
          cases hq
          obtain ⟨S1, s1, s2, s3, s4⟩ := r1 q hr
          rw [s1] at hrd
          have hlt : p < q := by
            obtain ⟨v1, hv1⟩ : ∃ m, v.length = m + 1 := ⟨v.length - 1, by omega⟩
            have hr2 := hr
            rw [hv1, exW, if_pos hpv] at hr2
            have := (exW_in (fun j hj => (hv j hj).1) _ _ _ _ (by omega) hr2).1
            omega
          refine leafG (o := (6, k, 0)) (hR0.t6 s2 s4 (fun k z => by simp at z; omega)) hlt s3 (s4.mn (by decide)) hrd (fun P => Or.inr (Or.inr (Or.inr (Or.inr (Or.inl ⟨rfl, hk3⟩))))) (show ¬ ((6 : Int32) = 3 ∨ (6 : Int32) = 8) by decide) (show ¬ ((6 : Int32) = 7 ∨ (6 : Int32) = 9 ∨ (6 : Int32) = 10) by decide) fun rec D n st => ?_
          unfold wrtV
          rw [eB_s]
          rfl
      have unf : mo_readThing N (nI c) S0 = _ := rfl
      by_cases c116 : lk t p = 116
      · have hrd : mo_readThing N (nI c) S0 = (md_c (mo_word N 1953658213 4 S0) fun S1 => mo_emit (nI c) 6 2 0 S1) := by
          unfold mo_readThing
          simp only [md_ci]
          rw [e_atp hR0.1 ht (by omega)]
          simp only [md_bs, aT_39 ht, aT_116 ht]
          rw [if_neg c39, e_isNum ht hR0.1 hp]
          simp only [md_bs, i01]
          rw [if_pos cn, if_pos c116]
        rw [if_neg (by unfold isPt; omega), if_neg (by omega), if_neg (by omega)]
        unfold rdP
        rw [if_neg (by omega), if_neg (by omega), if_neg (by omega), if_pos c116]
        exact wd (v := tTrue) wd_true (by decide) (by decide) (by decide) c116 (by decide) hrd
      · by_cases c102 : lk t p = 102
        · have hrd : mo_readThing N (nI c) S0 = (md_c (mo_word N 439721161573 5 S0) fun S1 => mo_emit (nI c) 6 1 0 S1) := by
            unfold mo_readThing
            simp only [md_ci]
            rw [e_atp hR0.1 ht (by omega)]
            simp only [md_bs, aT_39 ht, aT_116 ht, aT_102 ht]
            rw [if_neg c39, e_isNum ht hR0.1 hp]
            simp only [md_bs, i01]
            rw [if_pos cn, if_neg c116, if_pos c102]
          rw [if_neg (by unfold isPt; omega), if_neg (by omega), if_neg (by omega)]
          unfold rdP
          rw [if_neg (by omega), if_neg (by omega), if_pos c102]
          exact wd (v := tFalse) wd_false (by decide) (by decide) (by decide) c102 (by decide) hrd
        · by_cases c110 : lk t p = 110
          · have hrd : mo_readThing N (nI c) S0 = (md_c (mo_word N 1853189228 4 S0) fun S1 => mo_emit (nI c) 6 0 0 S1) := by
              unfold mo_readThing
              simp only [md_ci]
              rw [e_atp hR0.1 ht (by omega)]
              simp only [md_bs, aT_39 ht, aT_116 ht, aT_102 ht, aT_110 ht]
              rw [if_neg c39, e_isNum ht hR0.1 hp]
              simp only [md_bs, i01]
              rw [if_pos cn, if_neg c116, if_neg c102, if_pos c110]
            rw [if_neg (by unfold isPt; omega), if_neg (by omega), if_neg (by omega)]
            unfold rdP
            rw [if_neg (by omega), if_pos c110]
            exact wd (v := tNull) wd_null (by decide) (by decide) (by decide) c110 (by decide) hrd
          · rw [if_neg c116, if_neg c102, if_neg c110] at hst ill
            clear leafI leafG wd unf
            -- what follows a closing bracket
            have gz : ∀ {k : Nat} {S5 : md_S} {p2 : Nat} {Q1 : cQ} {cd y : Int32} {o : Int32 × Int32 × Int32} {m : Nat} {h2 : dThg}, nv = m + 1 → (∀ n, qL N (n + k) S = qL N n S5) → k + 10 * p + 9 ≤ 10 * p2 → p < p2 → rR t p2 Q1 ((cd, nI c, y) :: td) (4 - m) S5 → rF KR S S5 → p2 ≤ t.length → c < (qc Q1).1 → (qo Q1).1 < 170 → (∀ S', mo_readPart N cd (nI c) y S' = md_c (mo_need 41 (md_p S' 31 (S'.1 31 - 1))) fun S1 => mo_emit (nI c) o.1 o.2.1 o.2.2 S1) →
                (lk t p2 = 41 → ∃ S6, (∀ n, qL N (n + (k + 1)) S = qL N n S6) ∧ rR t (p2 + 1) (nOp Q1 c o) td (4 - nv) S6 ∧ rF KR S S6) ∧ (lk t p2 ≠ 41 → baR t N p S p2 39) := by
              intro k S5 p2 Q1 cd y o m h2 hm hk hkk hpp hR5 hf hp2 hc1 ho1 hpart
              have hR6 := hR5.pop
              have hs5 := qL_st (N := N) hR5.1.2.2 hR5.2.2.1
              have hR7 : rR t p2 Q1 td (4 - nv + 1) (md_p S5 55 (nI td.length)) := by
                rw [show 4 - nv + 1 = 4 - m by omega]; exact hR6
              have hR8 := hR7.down
              have f8 : rF KR S (md_p (md_p S5 55 (nI td.length)) 31 ((md_p S5 55 (nI td.length)).1 31 - 1)) := (hf.p (by decide)).p (by decide)
              have hs6 : ∀ n, qL N (n + (k + 1)) S = md_c (md_c (mo_need 41 (md_p (md_p S5 55 (nI td.length)) 31 ((md_p S5 55 (nI td.length)).1 31 - 1))) fun S1 => mo_emit (nI c) o.1 o.2.1 o.2.2 S1) fun S' => qL N n S' := fun n => by
                rw [show n + (k + 1) = (n + 1) + k by omega, hk, hs5]
                simp only [hpart]
              refine ⟨fun e => ?_, fun e => ?_⟩
              · rcases hR8.need ht (c := 41) hp2 (by decide) (by decide) with ⟨_, S9, a, b, d⟩ | ⟨e2, _⟩
                · obtain ⟨S10, x, y', z⟩ := b.op (c := c) (x2 := o.1) (x3 := o.2.1) (x4 := o.2.2) hc1 ho1
                  refine ⟨S10, fun n => ?_, y', (f8.tr d (fun _ z => z) (by decide)).tr z (fun _ z => z) (by decide)⟩
                  rw [hs6, show (41 : Int32) = nI 41 from rfl, a]
                  simp only [md_cs]
                  rw [x]
                  rfl
                · exact absurd e e2
              · rcases hR8.need ht (c := 41) hp2 (by decide) (by decide) with ⟨e2, _⟩ | ⟨_, S9, a, b, d, f9⟩
                · exact absurd e2 e
                · obtain ⟨S10, x, y', z⟩ := e_emit (x2 := o.1) (x3 := o.2.1) (x4 := o.2.2) d hc1 ho1
                  have hi : rI p2 S10 := by unfold rI; rw [(z 7 (by decide)).1]; exact b
                  refine ⟨1 + (k + 1), S10, by omega, fun n => ?_, hi, by omega, (f8.tr f9 (fun _ z => z) (by decide)).tr z (fun _ z => z) (by decide)⟩
                  rw [← Nat.add_assoc, hs6, show (41 : Int32) = nI 41 from rfl, a]
                  simp only [md_cs]
                  rw [x]
                  exact qL_ill hN hi (by omega)
            have eM : ∀ (m : Nat) (p1 : Nat), nv = m + 1 → p ≤ p1 → ent (4 - m) 1 p1 Q := fun m p1 hm h1 => by
              obtain ⟨x1, x2, x3, x4, x5⟩ := hE
              exact ⟨by omega, by omega, by omega, by omega, by omega⟩
            by_cases c108 : lk t p = 108
            · rw [if_pos c108] at hst ill
              rw [if_neg (by unfold isPt; omega), if_pos c108]
              obtain ⟨r1, r2⟩ := e_word ht (N := N) (v := tLen) wd_len (by decide) (by decide) hR0.1 hp hN
              unfold exWd
              cases hr : exW t tLen tLen.length 0 p with
              | inr w =>
                refine ⟨fun h p' hq => (nomatch hq), fun w' hq => ?_⟩
                cases hq
                obtain ⟨S1, s1, s2, s3, s4, s5, s6⟩ := e_word6 ht (N := N) (v := tLen) wd_len (by decide) (by decide) hR0.1 hp hN hr
                obtain ⟨S2, u1, u2, u3, u4⟩ := e_bracketI ht (hR0.x.f s6 (by decide) (by decide)) s4 s2 s3 (by omega) ⟨4 - nv, by rw [(s6 31 (by decide)).1]; exact hR0.2.2.2⟩
                have f2 : rF [6, 7, 31] S0 S2 := s6.tr u4 (by decide) (by decide)
                obtain ⟨S3, v1, v2, v3⟩ := e_push (x := 16) (y := nI c) (z := 0) (hR0.2.2.1.f f2 (by decide) (by decide) (by decide) (by decide)) (by omega)
                obtain ⟨S4, w1, w2, w3⟩ := e_push (x := 14) (y := nI c) (z := 0) v2 (by simp; omega)
                refine ill (S' := S4) ?_ ?_ s3 (((f2.mn (K := KR) (by decide)).tr v3 (fun _ z => z) (by decide)).tr w3 (fun _ z => z) (by decide))
                · rw [show (mo_word N 119182899770472 6 S0) = some S1 from s1]
                  simp only [md_cs, u1, v1, w1]
                · unfold rI
                  rw [(w3 7 (by decide)).1, (v3 7 (by decide)).1]; exact u2
              | inl p1 =>
                obtain ⟨S1, s1, s2, s3, s4⟩ := r1 p1 hr
                have hR1 : rR t p1 Q td (4 - nv) S1 := hR0.t6 s2 s4 (fun k z => by simp at z; omega)
                have hp1 : p + 6 ≤ p1 := by
                  have := exW_len (v := tLen) (by decide) hr
                  exact Nat.le_of_eq this
                have hill : ∀ {w : Nat}, (¬ (lk t p1 = 40 ∧ 4 - nv < 4)) → w = p1 → baR t N p S w 39 := fun {w} e ew => by
                  subst ew
                  obtain ⟨S2, u1, u2, u3, u4⟩ := (e_bracket ht hR1 s3 (by omega)).2 e
                  have f2 : rF [6, 7, 31] S0 S2 := s4.tr u4 (by decide) (by decide)
                  obtain ⟨S3, v1, v2, v3⟩ := e_push (x := 16) (y := nI c) (z := 0) (hR0.2.2.1.f f2 (by decide) (by decide) (by decide) (by decide)) (by omega)
                  obtain ⟨S4, w1, w2, w3⟩ := e_push (x := 14) (y := nI c) (z := 0) v2 (by simp; omega)
                  refine ill (S' := S4) ?_ ?_ (by omega) (((f2.mn (K := KR) (by decide)).tr v3 (fun _ z => z) (by decide)).tr w3 (fun _ z => z) (by decide))
                  · rw [show (mo_word N 119182899770472 6 S0) = some S1 from s1]
                    simp only [md_cs, u1, v1, w1]
                  · unfold rI
                    rw [(w3 7 (by decide)).1, (v3 7 (by decide)).1]; exact u2
                show (∀ h p', (if lk t p1 = 40 then _ else _) = _ → _) ∧ (∀ w, (if lk t p1 = 40 then _ else _) = _ → _)
                by_cases e40 : lk t p1 = 40
                · rw [if_pos e40]
                  cases nv with
                  | zero =>
                    refine ⟨fun h p' hq => (nomatch hq), fun w' hq => ?_⟩
                    cases hq
                    exact hill (by omega) rfl
                  | succ m =>
                    have hlt := lk_lt e40 (by decide)
                    obtain ⟨S2, u1, u2, u3⟩ := (e_bracket ht hR1 s3 (by omega)).1 e40 (by omega)
                    obtain ⟨S3, v1, v2, v3⟩ := u2.push (x := 16) (y := nI c) (z := 0) (by omega)
                    obtain ⟨S4, w1, w2, w3⟩ := v2.push (x := 14) (y := nI c) (z := 0) (by simp; omega)
                    have f4 : rF KR S S4 := (((f0.tr s4 (fun _ z => z) (by decide)).tr u3 (fun _ z => z) (by decide)).tr v3 (fun _ z => z) (by decide)).tr w3 (fun _ z => z) (by decide)
                    have hs4 : ∀ n, qL N (n + 1) S = qL N n S4 := fun n => by
                      rw [hst, show (mo_word N 119182899770472 6 S0) = some S1 from s1]
                      simp only [md_cs, u1, v1, w1]
                    have e4 : 4 - (m + 1) + 1 = 4 - m := by omega
                    rw [e4] at w2
                    obtain ⟨g1, g2⟩ := (hlo m rfl).1 (p1 + 1) Q c ((16, nI c, 0) :: td) S4 w2 hc (eM m (p1 + 1) rfl (by omega)) (by simp; omega) (by omega)
                    show (∀ h p', rB ((qLv t m).2.2 (p1 + 1)) _ = _ → _) ∧ (∀ w, rB ((qLv t m).2.2 (p1 + 1)) _ = _ → _)
                    cases hr2 : (qLv t m).2.2 (p1 + 1) with
                    | inr w =>
                      refine ⟨fun h p' hq => (nomatch hq), fun w' hq => ?_⟩
                      cases hq
                      exact (g2 w hr2).of (k := 1) (by omega) hs4 f4
                    | inl q =>
                      obtain ⟨h1, p2⟩ := q
                      obtain ⟨Q1, ⟨k, S5, k1, k2, k3, k4⟩, x1, x2, x3, x4⟩ := g1 h1 p2 hr2
                      obtain ⟨kp, ol, hol, sem, ok⟩ := x4
                      have hc1 : c < (qc Q1).1 := Nat.lt_of_lt_of_le hc kp.1.2.2.2.1
                      have ho1 : (qo Q1).1 < 170 := by have := x3.2.2.2.2; have := hE.2.2.2.2; omega
                      obtain ⟨z1, z2⟩ := gz (k := k + 1) (S5 := S5) (p2 := p2) (Q1 := Q1) (cd := 16) (y := 0) (o := (3, 0, 0)) (m := m) (h2 := h1) rfl (fun n => by rw [← Nat.add_assoc, hs4, k2]) (by omega) (by omega) k3 (f4.tr k4 (fun _ z => z) (fun _ z => z)) x2 hc1 ho1 (fun S' => rqe16)
                      show (∀ h p', rB (exC t 41 p2) _ = _ → _) ∧ (∀ w, rB (exC t 41 p2) _ = _ → _)
                      unfold exC
                      by_cases e41 : lk t p2 = 41
                      · rw [if_pos e41]
                        refine ⟨fun h p' hq => ?_, fun w' hq => (nomatch hq)⟩
                        cases hq
                        have hlt2 := lk_lt e41 (by decide)
                        obtain ⟨S6, y1, y2, y3⟩ := z1 e41
                        obtain ⟨i1, i2, i3, i4, i5⟩ := x3
                        refine ⟨nOp Q1 c (3, 0, 0), ⟨k + 1 + 1, S6, by omega, y1, y2, y3⟩, by omega, by omega, ⟨by show 5 * (qp Q1).1 + _ ≤ _; omega, by show 13 * (qc Q1).1 + _ + _ ≤ _; omega, by show (qg Q1).1 + _ ≤ _; omega, by show (qk Q1).1 + _ ≤ _; omega, by show (qo Q1).1 + 1 + _ ≤ _; omega⟩, kp.tr kp_op (fun b z => (nomatch z)) (fun b z => (nomatch z)) (fun b z _ => z), ol ++ [(qo Q1).1], ?_, fun X hX f hf D n st => ?_, fun X hX hL => okE_u ((ok X (hX.kp (kp_op (c := c) (o := (3, 0, 0))) kp.1 (fun b z => (nomatch z)) (fun b z => (nomatch z)) (fun b z => by cases z; exact hc)) ((kp_op (c := c) (o := (3, 0, 0))).1.tr hL)).mn (by omega) (Nat.le_refl _)) ((hX.2.2.2.2 (qo Q1).1 kp.1.2.2.2.2 (Nat.lt_succ_self _)).trans updL_s) (Or.inl rfl)⟩
                        · show updL (qc Q1).2 c ((qc Q1).2 c ++ [(qo Q1).1]) c = _
                          rw [updL_s, hol, List.append_assoc]
                        · have eo : (qo X).2 (qo Q1).1 = (3, 0, 0) := (hX.2.2.2.2 (qo Q1).1 kp.1.2.2.2.2 (Nat.lt_succ_self _)).trans updL_s
                          have hX1 : agr Q Q1 X := hX.kp (kp_op (c := c) (o := (3, 0, 0))) kp.1 (fun b z => (nomatch z)) (fun b z => (nomatch z)) (fun b z => by cases z; exact hc)
                          rw [opsE_app, sem X hX1 f (by omega), eB_a]
                          unfold lenV
                          rw [eB_a]
                          congr 1
                          funext v
                          rw [eB_s, eB_s]
                          show eB (opE t (evP t X f) ((qo X).2 (qo Q1).1) D n (v :: st)) (fun st' => some (st', 0)) = _
                          rw [eB_p, eo]
                          unfold opE lenO
                          cases v <;> rfl
                      · rw [if_neg e41]
                        refine ⟨fun h p' hq => (nomatch hq), fun w' hq => ?_⟩
                        cases hq
                        exact z2 e41
                · rw [if_neg e40]
                  refine ⟨fun h p' hq => (nomatch hq), fun w' hq => ?_⟩
                  cases hq
                  exact hill (fun z => e40 z.1) rfl
            · rw [if_neg c108] at hst ill
              by_cases c99 : lk t p = 99
              · rw [if_pos c99] at hst ill
                rw [if_neg (by unfold isPt; omega), if_neg c108, if_pos c99]
                obtain ⟨r1, r2⟩ := e_word ht (N := N) (v := tCnt) wd_cnt (by decide) (by decide) hR0.1 hp hN
                have ptI : ∀ {S2 : md_S} {w q : Nat}, rX t S2 → S2.1 6 = nI q → q < 1000 → rI w S2 → w < 1000 → ∃ S', mo_readPathThing (nI c) 17 S2 = some S' ∧ rI w S' ∧ rF [7] S2 S' := fun {S2 w q} a b b2 d e => by
                  unfold mo_readPathThing mo_readPathThing_j28
                  rw [b, e_at a ht b2]
                  simp only [md_bs]
                  rw [e_ill d e]
                  simp only [md_bs, if_true]
                  rw [e_fail2 d e, md_pp]
                  exact ⟨S2, rfl, d, rF.rf⟩
                unfold exWd
                cases hr : exW t tCnt tCnt.length 0 p with
                | inr w =>
                  refine ⟨fun h p' hq => (nomatch hq), fun w' hq => ?_⟩
                  cases hq
                  obtain ⟨S1, s1, s2, s3, s4, s5, s6⟩ := e_word6 ht (N := N) (v := tCnt) wd_cnt (by decide) (by decide) hR0.1 hp hN hr
                  obtain ⟨S2, u1, u2, u3, u4⟩ := e_bracketI ht (hR0.x.f s6 (by decide) (by decide)) s4 s2 s3 (by omega) ⟨4 - nv, by rw [(s6 31 (by decide)).1]; exact hR0.2.2.2⟩
                  have f2 : rF [6, 7, 31] S0 S2 := s6.tr u4 (by decide) (by decide)
                  obtain ⟨S3, v1, v2, v3⟩ := ptI (hR0.x.f f2 (by decide) (by decide)) u3 (by omega) u2 s3
                  refine ill (S' := S3) ?_ v2 s3 ((f2.mn (K := KR) (by decide)).tr v3 (fun _ z => z) (by decide))
                  rw [show (mo_word N 427071729268 5 S0) = some S1 from s1]
                  simp only [md_cs, u1, v1]
                | inl p1 =>
                  obtain ⟨S1, s1, s2, s3, s4⟩ := r1 p1 hr
                  have hR1 : rR t p1 Q td (4 - nv) S1 := hR0.t6 s2 s4 (fun k z => by simp at z; omega)
                  have hp1 : p + 5 ≤ p1 := by
                    have := exW_len (v := tCnt) (by decide) hr
                    exact Nat.le_of_eq this
                  have hill : ∀ {w : Nat}, (¬ (lk t p1 = 40 ∧ 4 - nv < 4)) → w = p1 → baR t N p S w 39 := fun {w} e ew => by
                    subst ew
                    obtain ⟨S2, u1, u2, u3, u4⟩ := (e_bracket ht hR1 s3 (by omega)).2 e
                    have f2 : rF [6, 7, 31] S0 S2 := s4.tr u4 (by decide) (by decide)
                    obtain ⟨S3, v1, v2, v3⟩ := ptI (hR0.x.f f2 (by decide) (by decide)) u3 (by omega) u2 (by omega)
                    refine ill (S' := S3) ?_ v2 (by omega) ((f2.mn (K := KR) (by decide)).tr v3 (fun _ z => z) (by decide))
                    rw [show (mo_word N 427071729268 5 S0) = some S1 from s1]
                    simp only [md_cs, u1, v1]
                  show (∀ h p', (if lk t p1 = 40 then _ else _) = _ → _) ∧ (∀ w, (if lk t p1 = 40 then _ else _) = _ → _)
                  by_cases e40 : lk t p1 = 40
                  · rw [if_pos e40]
                    cases nv with
                    | zero =>
                      refine ⟨fun h p' hq => (nomatch hq), fun w' hq => ?_⟩
                      cases hq
                      exact hill (by omega) rfl
                    | succ m =>
                      have hlt := lk_lt e40 (by decide)
                      obtain ⟨S2, u1, u2, u3⟩ := (e_bracket ht hR1 s3 (by omega)).1 e40 (by omega)
                      obtain ⟨pt1, pt2⟩ := e_pathThing ht (c := c) (x2 := 17) u2 (by omega) hnp (by omega)
                      show (∀ h p', (if isPt t (p1 + 1) then _ else _) = _ → _) ∧ (∀ w, (if isPt t (p1 + 1) then _ else _) = _ → _)
                      by_cases ept : isPt t (p1 + 1)
                      · rw [if_pos ept]
                        obtain ⟨S4, w1, w2, w3⟩ := pt1 ept
                        have f4 : rF KR S S4 := ((f0.tr s4 (fun _ z => z) (by decide)).tr u3 (fun _ z => z) (by decide)).tr w3 (fun _ z => z) (fun _ z => z)
                        have hs4 : ∀ n, qL N (n + 1) S = qL N n S4 := fun n => by
                          rw [hst, show (mo_word N 427071729268 5 S0) = some S1 from s1]
                          simp only [md_cs, u1, w1]
                        have e4 : 4 - (m + 1) + 1 = 4 - m := by omega
                        rw [e4] at w2
                        obtain ⟨g1, g2⟩ := (hlo m rfl).2 (p1 + 1) Q ((17, nI c, nI (qp Q).1) :: td) S4 (lk t (p1 + 1) == 36) w2 rfl ept (eM m (p1 + 1) rfl (by omega)) (by simp; omega)
                        show (∀ h p', rB ((qLv t m).2.1 (p1 + 1)) _ = _ → _) ∧ (∀ w, rB ((qLv t m).2.1 (p1 + 1)) _ = _ → _)
                        cases hr2 : (qLv t m).2.1 (p1 + 1) with
                        | inr w =>
                          refine ⟨fun h p' hq => (nomatch hq), fun w' hq => ?_⟩
                          cases hq
                          exact (g2 w hr2).of (k := 1) (by omega) hs4 f4
                        | inl q =>
                          obtain ⟨d1, p2⟩ := q
                          obtain ⟨Q1, ⟨k, S5, k1, k2, k3, k4⟩, x1, x2, x3, x4⟩ := g1 d1 p2 hr2
                          obtain ⟨kp, xa, xb, xc, xd, xe, xl, sem, okp⟩ := x4
                          have hc1 : c < (qc Q1).1 := Nat.lt_of_lt_of_le hc kp.1.2.2.2.1
                          have ho1 : (qo Q1).1 < 170 := by have := x3.2; have := hE.2.2.2.2; omega
                          have hol : (qc Q1).2 c = (qc Q).2 c := kp.2.2.2.2.1 c hc (fun z => nomatch z)
                          obtain ⟨z1, z2⟩ := gz (k := k + 1) (S5 := S5) (p2 := p2) (Q1 := Q1) (cd := 17) (y := nI (qp Q).1) (o := (2, nI (qp Q).1, 0)) (m := m) (h2 := wrtV (0, 0, [])) rfl (fun n => by rw [← Nat.add_assoc, hs4, k2]) (by omega) (by omega) k3 (f4.tr k4 (fun _ z => z) (fun _ z => z)) x2 hc1 ho1 (fun S' => rqe17)
                          show (∀ h p', rB (exC t 41 p2) _ = _ → _) ∧ (∀ w, rB (exC t 41 p2) _ = _ → _)
                          unfold exC
                          by_cases e41 : lk t p2 = 41
                          · rw [if_pos e41]
                            refine ⟨fun h p' hq => ?_, fun w' hq => (nomatch hq)⟩
                            cases hq
                            have hlt2 := lk_lt e41 (by decide)
                            obtain ⟨S6, y1, y2, y3⟩ := z1 e41
                            obtain ⟨⟨i1, i2, i3, i4, i5⟩, i6⟩ := x3
                            refine ⟨nOp Q1 c (2, nI (qp Q).1, 0), ⟨k + 1 + 1, S6, by omega, y1, y2, y3⟩, by omega, by omega, ⟨by show 5 * (qp Q1).1 + _ ≤ _; omega, by show 13 * (qc Q1).1 + _ + _ ≤ _; omega, by show (qg Q1).1 + _ ≤ _; omega, by show (qk Q1).1 + _ ≤ _; omega, by show (qo Q1).1 + 1 + _ ≤ _; omega⟩, ((kp.wk (cc := some c)).tr kp_op (fun b z => (nomatch z)) (fun b z => (nomatch z)) (fun b z _ => z)), [(qo Q1).1], ?_, fun X hX f hf D n st => ?_, fun X hX hL => okE_1 ((hX.2.2.2.2 (qo Q1).1 kp.1.2.2.2.2 (Nat.lt_succ_self _)).trans updL_s) (Or.inl ⟨show (2 : Int32) = 0 ∨ (2 : Int32) = 1 ∨ (2 : Int32) = 2 by decide, (qp Q).1, hnp, rfl, okP_mn (okp X (hX.kp (kp_op (c := c) (o := (2, nI (qp Q).1, 0))) kp.1 (fun b z => (nomatch z)) (fun b z => (nomatch z)) (fun b z => by cases z; exact hc)) ((kp_op (c := c) (o := (2, nI (qp Q).1, 0))).1.tr hL)) (by omega)⟩) (show ¬ ((2 : Int32) = 3 ∨ (2 : Int32) = 8) by decide) (show ¬ ((2 : Int32) = 7 ∨ (2 : Int32) = 9 ∨ (2 : Int32) = 10) by decide) (Nat.le_refl _)⟩
                            · show updL (qc Q1).2 c ((qc Q1).2 c ++ [(qo Q1).1]) c = _
                              rw [updL_s, hol]
                            · have eo : (qo X).2 (qo Q1).1 = (2, nI (qp Q).1, 0) := (hX.2.2.2.2 (qo Q1).1 kp.1.2.2.2.2 (Nat.lt_succ_self _)).trans updL_s
                              have hX1 : agr Q Q1 X := hX.kp (kp_op (c := c) (o := (2, nI (qp Q).1, 0))) kp.1 (fun b z => (nomatch z)) (fun b z => (nomatch z)) (fun b z => by cases z; exact hc)
                              show eB (opE t (evP t X f) ((qo X).2 (qo Q1).1) D n st) (fun st' => some (st', 0)) = _
                              rw [eB_p, eo]
                              unfold opE cntV
                              simp only [nI_clamp (show (qp Q).1 < 2 ^ 31 by omega)]
                              rw [sem X hX1 f (by omega), eB_a]
                              simp only [eB_s]
                              rfl
                          · rw [if_neg e41]
                            refine ⟨fun h p' hq => (nomatch hq), fun w' hq => ?_⟩
                            cases hq
                            exact z2 e41
                      · rw [if_neg ept]
                        refine ⟨fun h p' hq => (nomatch hq), fun w' hq => ?_⟩
                        cases hq
                        obtain ⟨S4, w1, w2, w3⟩ := pt2 ept
                        refine ill (S' := S4) ?_ w2 (by omega) (((s4.mn (K := KR) (by decide)).tr u3 (fun _ z => z) (by decide)).tr w3 (fun _ z => z) (fun _ z => z))
                        rw [show (mo_word N 427071729268 5 S0) = some S1 from s1]
                        simp only [md_cs, u1, w1]
                  · rw [if_neg e40]
                    refine ⟨fun h p' hq => (nomatch hq), fun w' hq => ?_⟩
                    cases hq
                    exact hill (fun z => e40 z.1) rfl
              · rw [if_neg c99] at hst ill
                obtain ⟨pt1, pt2⟩ := e_pathThing ht (c := c) (x2 := 18) hR0 hp hnp (by omega)
                by_cases ept : isPt t p
                · rw [if_pos ept]
                  obtain ⟨S4, w1, w2, w3⟩ := pt1 ept
                  have f4 : rF KR S S4 := f0.tr w3 (fun _ z => z) (fun _ z => z)
                  have hs4 : ∀ n, qL N (n + 1) S = qL N n S4 := fun n => by
                    rw [hst, w1]
                    rfl
                  obtain ⟨g1, g2⟩ := hP p Q ((18, nI c, nI (qp Q).1) :: td) S4 (lk t p == 36) w2 rfl ept hE (by simp; omega)
                  have e21 : (qLv t nv).2.1 p = qPath t (loV t nv) p := by rw [qLv_eq]
                  rw [e21] at g1 g2
                  cases hr2 : qPath t (loV t nv) p with
                  | inr w =>
                    refine ⟨fun h p' hq => (nomatch hq), fun w' hq => ?_⟩
                    cases hq
                    exact (g2 w hr2).of (k := 1) (by omega) hs4 f4
                  | inl q =>
                    obtain ⟨d1, p2⟩ := q
                    obtain ⟨Q1, ⟨k, S5, k1, k2, k3, k4⟩, x1, x2, x3, x4⟩ := g1 d1 p2 hr2
                    obtain ⟨kp, xa, xb, xc, xd, xe, xl, sem, okp⟩ := x4
                    have hc1 : c < (qc Q1).1 := Nat.lt_of_lt_of_le hc kp.1.2.2.2.1
                    have ho1 : (qo Q1).1 < 170 := by have := x3.2; have := hE.2.2.2.2; omega
                    have hol : (qc Q1).2 c = (qc Q).2 c := kp.2.2.2.2.1 c hc (fun z => nomatch z)
                    have hR6 := k3.pop
                    have hs5 := qL_st (N := N) k3.1.2.2 k3.2.2.1
                    have f5 : rF KR S (md_p S5 55 (nI td.length)) := (f4.tr k4 (fun _ z => z) (fun _ z => z)).p (by decide)
                    have hs6 : ∀ n, qL N (n + (1 + (k + 1))) S = md_c (md_c (mo_mustBeSingle N (nI (qp Q).1) (md_p S5 55 (nI td.length))) fun S1 => mo_emit (nI c) 1 (nI (qp Q).1) 0 S1) fun S' => qL N n S' := fun n => by
                      rw [show n + (1 + (k + 1)) = ((n + 1) + k) + 1 by omega, hs4, k2, hs5]
                      simp only [rqe18]
                    obtain ⟨m1, m2⟩ := e_must (N := N) hR6 xa xl hN
                    show (∀ h p', (if d1.2.1 = true then _ else _) = _ → _) ∧ (∀ w, (if d1.2.1 = true then _ else _) = _ → _)
                    by_cases es : d1.2.1 = true
                    · rw [if_pos es]
                      refine ⟨fun h p' hq => ?_, fun w' hq => (nomatch hq)⟩
                      cases hq
                      have hm := m1 (xd.trans es)
                      obtain ⟨S6, y1, y2, y3⟩ := hR6.op (c := c) (x2 := 1) (x3 := nI (qp Q).1) (x4 := 0) hc1 ho1
                      obtain ⟨⟨i1, i2, i3, i4, i5⟩, i6⟩ := x3
                      refine ⟨nOp Q1 c (1, nI (qp Q).1, 0), ⟨1 + (k + 1), S6, by omega, fun n => ?_, y2, f5.tr y3 (fun _ z => z) (by decide)⟩, x1, x2, ⟨by show 5 * (qp Q1).1 + _ ≤ _; omega, by show 13 * (qc Q1).1 + _ + _ ≤ _; omega, by show (qg Q1).1 + _ ≤ _; omega, by show (qk Q1).1 + _ ≤ _; omega, by show (qo Q1).1 + 1 + _ ≤ _; omega⟩, ((kp.wk (cc := some c)).tr kp_op (fun b z => (nomatch z)) (fun b z => (nomatch z)) (fun b z _ => z)), [(qo Q1).1], ?_, fun X hX f hf D n st => ?_, fun X hX hL => okE_1 ((hX.2.2.2.2 (qo Q1).1 kp.1.2.2.2.2 (Nat.lt_succ_self _)).trans updL_s) (Or.inl ⟨show (1 : Int32) = 0 ∨ (1 : Int32) = 1 ∨ (1 : Int32) = 2 by decide, (qp Q).1, hnp, rfl, okP_mn (okp X (hX.kp (kp_op (c := c) (o := (1, nI (qp Q).1, 0))) kp.1 (fun b z => (nomatch z)) (fun b z => (nomatch z)) (fun b z => by cases z; exact hc)) ((kp_op (c := c) (o := (1, nI (qp Q).1, 0))).1.tr hL)) (by omega)⟩) (show ¬ ((1 : Int32) = 3 ∨ (1 : Int32) = 8) by decide) (show ¬ ((1 : Int32) = 7 ∨ (1 : Int32) = 9 ∨ (1 : Int32) = 10) by decide) (Nat.le_refl _)⟩
                      · rw [hs6, hm]
                        simp only [md_cs]
                        rw [y1]
                        rfl
                      · show updL (qc Q1).2 c ((qc Q1).2 c ++ [(qo Q1).1]) c = _
                        rw [updL_s, hol]
                      · have eo : (qo X).2 (qo Q1).1 = (1, nI (qp Q).1, 0) := (hX.2.2.2.2 (qo Q1).1 kp.1.2.2.2.2 (Nat.lt_succ_self _)).trans updL_s
                        have hX1 : agr Q Q1 X := hX.kp (kp_op (c := c) (o := (1, nI (qp Q).1, 0))) kp.1 (fun b z => (nomatch z)) (fun b z => (nomatch z)) (fun b z => by cases z; exact hc)
                        show eB (opE t (evP t X f) ((qo X).2 (qo Q1).1) D n st) (fun st' => some (st', 0)) = _
                        rw [eB_p, eo]
                        unfold opE pthV
                        simp only [nI_clamp (show (qp Q).1 < 2 ^ 31 by omega)]
                        rw [sem X hX1 f (by omega), eB_a]
                        simp only [eB_s]
                        rfl
                    · rw [if_neg es]
                      refine ⟨fun h p' hq => (nomatch hq), fun w' hq => ?_⟩
                      cases hq
                      obtain ⟨S6, y1, y2, y3⟩ := m2 (xd.trans (by simpa using es))
                      rw [xc] at y2
                      obtain ⟨S7, x, y', z⟩ := e_emit (x2 := 1) (x3 := nI (qp Q).1) (x4 := 0) (hR6.2.1.f y3 (fun k h1 h2 _ _ z => by simp at z; omega)) hc1 ho1
                      have hi : rI p S7 := by unfold rI; rw [(z 7 (by decide)).1]; exact y2
                      refine ⟨1 + (1 + (k + 1)), S7, by omega, fun n => ?_, hi, by omega, (f5.tr y3 (fun _ z => z) (by decide)).tr z (fun _ z => z) (by decide)⟩
                      rw [← Nat.add_assoc, hs6, y1]
                      simp only [md_cs]
                      rw [x]
                      exact qL_ill hN hi (by omega)
                · rw [if_neg ept, if_neg c108, if_neg c99, rdP_n c39 c110 c102 c116]
                  have hr : rdN t 6 p = .inr p := by
                    unfold rdN
                    simp only [if_neg (show ¬ lk t p = 45 by omega)]
                    rw [if_neg (show ¬ (lk t p ≠ 45 ∧ lk t p = 48) by omega), if_pos (Or.inl (show ¬ isDg t p by unfold isDg; omega))]
                  rw [hr]
                  refine ⟨fun h p' hq => (nomatch hq), fun w' hq => ?_⟩
                  cases hq
                  obtain ⟨S4, w1, w2, w3⟩ := pt2 ept
                  exact ill w1 w2 (by omega) w3
