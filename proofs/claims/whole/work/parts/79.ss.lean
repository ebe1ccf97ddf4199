theorem e_op {t : List Nat} {D : dS} {tq : List Nat} {Q : cQ} {g f m c o ch bo : Nat} {pre rest : List Nat} {st vs : stk} (hf : f < 7) (hD : D.1 ≤ 40) (HP : HPs t tq D Q g (f + 1) m bo) (hc : c < (qc Q).1) (hl : (qc Q).2 c = pre ++ o :: rest) (hok : okO tq (okP tq Q g) ((qo Q).2 o)) (hch : ch < D.1) (hm : vs.length + 15 ≤ m) (hm2 : m ≤ 100) (hn : okL (qo Q).2 [o] st.length ≠ none) (hst : st.length ≤ 15) :
    RN (bo + 2) t D tq Q (OPp t tq D f ch vs (o :: rest) st) (opE tq (evP tq Q g) ((qo Q).2 o) D ch st) (OPr t tq D f vs rest) := by
  -- the op is taken
  have key : ∀ {N : Nat} {S : md_S}, rSt t D tq Q S → OPp t tq D f ch vs (o :: rest) st S → ∃ S1, S1 = md_w S 71 f (oI rest.head?) ∧ rF [71] S S1 ∧ lx [71] f S S1 ∧ tp t tq D f (st ++ vs) S1 ∧ S1.2 71 f = oI rest.head? ∧ S1.2 70 f = nI ch ∧ S1.2 51 o = ((qo Q).2 o).1 ∧ S1.2 52 o = ((qo Q).2 o).2.1 ∧ S1.2 53 o = ((qo Q).2 o).2.2 ∧ rSt t D tq Q S1 ∧ o < 170 := fun {N S} hS hP => by
    obtain ⟨h1, h2, h3, h4⟩ := hP
    obtain ⟨n1, n2⟩ := rLs_n hS.2.1.2.2.2.2.2.2.2.2 hc hl
    have hq := hS.2.1.2.1.2.2.2.2
    have co := hS.2.1.2.2.2.2.2.1 o n2
    have fr : rF [71] S (md_w S 71 f (oI rest.head?)) := rF.rf.w (by decide)
    exact ⟨_, rfl, fr, lx.rf.w (by decide) (by decide) (by decide), ⟨h1.1, h1.2.f fr (fun k z => by simp at z; omega)⟩, md_w_s, by rw [md_w_k (by decide)]; exact h3, by rw [md_w_k (by decide)]; exact co.1, by rw [md_w_k (by decide)]; exact co.2.1, by rw [md_w_k (by decide)]; exact co.2.2, hS.f fr (fun k z => by simp at z; omega), by omega⟩
  have stp : ∀ {N : Nat} {S S1 : md_S}, rSt t D tq Q S → OPp t tq D f ch vs (o :: rest) st S → S1 = md_w S 71 f (oI rest.head?) → o < 170 → ∀ {k a b : Int32}, S1.2 51 o = k → S1.2 52 o = a → S1.2 53 o = b → mo_step N S = (if k = 0 then (if md_in a 100 then (if S1.2 36 a.toNatClampNeg = 0 then mo_enter a (S1.2 70 f) 1 S1 else mo_enter a 0 1 S1) else none)
      else if k = 1 then (if md_in a 100 then (if S1.2 36 a.toNatClampNeg = 0 then mo_enter a (S1.2 70 f) 2 S1 else mo_enter a 0 2 S1) else none)
      else if k = 2 then (if md_in a 100 then (if S1.2 36 a.toNatClampNeg = 0 then mo_enter a (S1.2 70 f) 3 S1 else mo_enter a 0 3 S1) else none)
      else if k = 3 then mo_lengthOf N S1 else if k = 4 then mo_value 3 a 0 S1 else if k = 5 then mo_value 4 (1000 + a) b S1 else if k = 6 then mo_value a (-1) 0 S1 else if k = 7 then mo_compare N a S1 else mo_logic k S1) := fun {N S S1} hS hP e1 ho {k a b} ek ea eb => by
    obtain ⟨h1, h2, h3, h4⟩ := hP
    obtain ⟨n1, n2⟩ := rLs_n hS.2.1.2.2.2.2.2.2.2.2 hc hl
    have h4' : S.2 71 f = nI o := h4
    unfold mo_step mo_stepOp mo_stepOp_j129 mo_stepOp_j157 mo_stepOp_j185
    simp only [h1.1, nI_pred, if_pos (nI_in (show f < 8 by omega) (by omega)), nI_clamp (show f < 2 ^ 31 by omega), h2, h4', if_neg (show ¬ nI o = -1 from nI_m1 (by omega)), if_pos (nI_in ho (by omega)), nI_clamp (show o < 2 ^ 31 by omega), n1, md_lx, ← e1, ek, ea, eb, md_ci]
    rw [if_neg (by decide), if_neg (by decide), if_neg (by decide), if_neg (by decide)]
  have h59 : ∀ S, OPp t tq D f ch vs (o :: rest) st S → ¬ S.1 59 ≤ 0 := fun S h => h.1.n0 (by omega)
  obtain ⟨op, hop⟩ : ∃ op, op = (qo Q).2 o := ⟨_, rfl⟩
  have hnn : okL (qo Q).2 [o] st.length = (if op.1 = 3 ∨ op.1 = 8 then (if 1 ≤ st.length then some st.length else none) else if op.1 = 7 ∨ op.1 = 9 ∨ op.1 = 10 then (if 2 ≤ st.length then some (st.length - 1) else none) else if st.length < 15 then some (st.length + 1) else none) := by
    rw [okL, ← hop]; rfl
  rw [← hop] at hok
  rw [← hop]
  obtain ⟨ok, oa, ob⟩ := op
  have hlen : (st ++ vs).length = st.length + vs.length := List.length_append
  -- a step that leaves one value more or less
  have one : ∀ {st' : stk}, (∀ {N : Nat} {S S1 : md_S}, 3000 + kB 7 ≤ N → S1 = md_w S 71 f (oI rest.head?) → rSt t D tq Q S1 → tp t tq D f (st ++ vs) S1 → mo_step N S = (if ok = 0 then (if md_in oa 100 then (if S1.2 36 oa.toNatClampNeg = 0 then mo_enter oa (S1.2 70 f) 1 S1 else mo_enter oa 0 1 S1) else none)
      else if ok = 1 then (if md_in oa 100 then (if S1.2 36 oa.toNatClampNeg = 0 then mo_enter oa (S1.2 70 f) 2 S1 else mo_enter oa 0 2 S1) else none)
      else if ok = 2 then (if md_in oa 100 then (if S1.2 36 oa.toNatClampNeg = 0 then mo_enter oa (S1.2 70 f) 3 S1 else mo_enter oa 0 3 S1) else none)
      else if ok = 3 then mo_lengthOf N S1 else if ok = 4 then mo_value 3 oa 0 S1 else if ok = 5 then mo_value 4 (1000 + oa) ob S1 else if ok = 6 then mo_value oa (-1) 0 S1 else if ok = 7 then mo_compare N oa S1 else mo_logic ok S1) → ∃ S', mo_step N S = some S' ∧ rVs t tq D (st' ++ vs) S' ∧ rF [76, 77, 78, 79, 80, 81] S1 S') → RN (bo + 2) t D tq Q (OPp t tq D f ch vs (o :: rest) st) (some (st', 0)) (OPr t tq D f vs rest) := fun {st'} H => by
    refine RN.mn (RN.on0 h59 fun N hN S hS h60 hP => ?_) (show 1 ≤ bo + 2 by omega)
    obtain ⟨S1, k0, k1, k2, k3, k4, k5, k6, k7, k8, k9, k10⟩ := key (N := N) hS hP
    rw [← hop] at k6 k7 k8
    obtain ⟨S', b1, b2, b3⟩ := H (S := S) hN k0 k9 k3 (stp hS hP k0 k10 k6 k7 k8)
    have f1 : rF KM S S' := k1.tr b3 (fun q z => by simp at z; exact KM_in (by omega) (by omega)) (fun q z => by simp at z; exact KM_in (by omega) (by omega))
    exact ⟨S', b1, f1, by rw [(b3 60 (by decide)).1, (k1 60 (by decide)).1], by rw [(b3 61 (by decide)).1, (k1 61 (by decide)).1], ⟨by rw [(b3 59 (by decide)).1]; exact k3.1, b2⟩, by rw [(b3 71 (by decide)).2]; exact k4, k2.tr (lx.fr b3 (fun q z => by simp at z; omega)) (fun _ z => z) (fun _ z => z)⟩
  rcases hok with ⟨h012, a, ha, hoa, hpa⟩ | hok
  · have hoa' : oa = nI a := hoa
    have h012' : ok = 0 ∨ ok = 1 ∨ ok = 2 := h012
    have hap : a < (qp Q).1 := by
      cases g with
      | zero => exact hpa.elim
      | succ g => exact hpa.1
    have hs15 : st.length < 15 := by
      refine Classical.byContradiction fun z => hn ?_
      rw [hnn, if_neg (by rcases h012 with e | e | e <;> rw [e] <;> decide), if_neg (by rcases h012 with e | e | e <;> rw [e] <;> decide), if_neg z]
    have hE : opE tq (evP tq Q g) (ok, oa, ob) D ch st = eB (some ((), 0)) fun _ => eB (evP tq Q g a D ch) fun r => eB (some (lvV ok r, 0)) fun v => some (v :: st, 0) := by
      rw [eB_s]
      unfold opE
      simp only [hoa', nI_clamp (show a < 2 ^ 31 by omega)]
      rcases h012' with e | e | e
      · rw [if_pos e]; congr 1; funext r; rw [eB_s, e]; rfl
      · rw [if_neg (by rw [e]; decide), if_pos e]; congr 1; funext r; rw [eB_s, e]; rfl
      · rw [if_neg (by rw [e]; decide), if_neg (by rw [e]; decide), if_pos e]; congr 1; funext r; rw [eB_s, e]; rfl
    rw [hE]
    have p1 : RN 1 t D tq Q (OPp t tq D f ch vs (o :: rest) st) (some ((), 0)) (fun _ S S' => PP t tq D Q (f + 1) a (ok + 1) ch (st ++ vs) S' ∧ S'.2 71 f = oI rest.head? ∧ lx [71] f S S') := by
      refine RN.on0 h59 fun N hN S hS h60 hP => ?_
      obtain ⟨S1, k0, k1, k2, k3, k4, k5, k6, k7, k8, k9, k10⟩ := key (N := N) hS hP
      rw [← hop] at k6 k7 k8
      have e36 := (k9.2.1.2.2.1 a hap).2
      have hst := stp (N := N) hS hP k0 k10 k6 k7 k8
      simp only [hoa', if_pos (nI_in ha (by omega)), nI_clamp (show a < 2 ^ 31 by omega), k5, e36, bI_0] at hst
      obtain ⟨S2, b1, b2, b3, b4, b5, b6, b7, b8⟩ := e_enter (x := if ((qp Q).2.1 a).2 = true then 0 else ch) (u := ok + 1) k9 k3.1 (show f + 1 < 8 by omega) hap
      have hst2 : mo_step N S = some S2 := by
        rw [hst, ← b1]
        rcases h012' with e | e | e
        · rw [if_pos e, e]
          cases ((qp Q).2.1 a).2 <;> rfl
        · rw [if_neg (by rw [e]; decide), if_pos e, e]
          cases ((qp Q).2.1 a).2 <;> rfl
        · rw [if_neg (by rw [e]; decide), if_neg (by rw [e]; decide), if_pos e, e]
          cases ((qp Q).2.1 a).2 <;> rfl
      refine ⟨S2, hst2, k1.tr b8 (fun q z => by simp at z; exact KM_in (by omega) (by omega)) (fun q z => by simp at z; exact KM_in (by omega) (by omega)), by rw [(b8 60 (by decide)).1, (k1 60 (by decide)).1], by rw [(b8 61 (by decide)).1, (k1 61 (by decide)).1], ⟨⟨b2, k3.2.f b8 (fun q z => by simp at z; omega)⟩, b3, b4, b5, b6⟩, by rw [b7.1 71 (by omega) (by omega) f (by omega)]; exact k4, k2.tr (lx.lo b7) (fun _ z => z) (fun _ z => (nomatch (show _ ∈ ([] : List Nat) from z)))⟩
    have p2 := HP a hpa (ok + 1) ch (st ++ vs) hch (by omega)
    have p3 : ∀ r, RN 1 t D tq Q (fun S => tp t tq D (f + 1) (st ++ vs) S ∧ S.2 62 (f + 1) = 0 ∧ S.2 64 (f + 1) = -1 ∧ S.2 63 (f + 1) = ok + 1 ∧ rRow (f + 1) r S ∧ ∀ x, x ∈ r → x < D.1) (eB (some (lvV ok r, 0)) fun v => some (v :: st, 0)) (fun st' S S' => tp t tq D f (st' ++ vs) S' ∧ low (f + 1) S S') := fun r => by
      rw [eB_s]
      have := r_leave (t := t) (D := D) (tq := tq) (Q := Q) (k := f) (row := r) (vs := st ++ vs) h012' hf (by omega)
      refine RN.bd (b1 := 1) (b2 := 0) (x := some (lvV ok r, 0)) (f := fun v => some (v :: st, 0)) (P2 := fun v S => True) (R2 := fun v st' S S' => S' = S ∧ st' = v :: st) this (fun v k _ _ => RN.nil fun S _ => ⟨rfl, rfl⟩) (fun _ _ _ _ _ => trivial) (fun v b S S' S'' _ h1 h2 => ?_) |> fun z => by rw [eB_s] at z; exact z
      obtain ⟨rfl, rfl⟩ := h2
      exact h1
    refine RN.mn (RN.bd (b1 := 1) (b2 := bo + 1) p1 (P2 := fun _ S => PP t tq D Q (f + 1) a (ok + 1) ch (st ++ vs) S) (R2 := fun _ st' S S' => tp t tq D f (st' ++ vs) S' ∧ low (f + 1) S S') (fun _ _ _ _ => ?_) (fun _ S S' _ h => h.1) (fun _ st' S S' S'' _ h1 h2 => ⟨h2.1, by rw [h2.2.1 71 (by omega) (by omega) f (by omega)]; exact h1.2.1, h1.2.2.tr (lx.lo h2.2) (fun _ z => z) (fun _ z => (nomatch (show _ ∈ ([] : List Nat) from z)))⟩)) (show 1 + (bo + 1) ≤ bo + 2 by omega)
    refine RN.bd p2 (P2 := fun r S => tp t tq D (f + 1) (st ++ vs) S ∧ S.2 62 (f + 1) = 0 ∧ S.2 64 (f + 1) = -1 ∧ S.2 63 (f + 1) = ok + 1 ∧ rRow (f + 1) r S ∧ ∀ x, x ∈ r → x < D.1) (R2 := fun r st' S S' => tp t tq D f (st' ++ vs) S' ∧ low (f + 1) S S') (fun r _ _ _ => p3 r) (fun r S S' hp h => ⟨h.1, h.2.1, h.2.2.1, h.2.2.2.1.trans hp.2.2.1, h.2.2.2.2.1, h.2.2.2.2.2.2⟩) (fun r st' S S' S'' hp h1 h2 => ⟨h2.1, h1.2.2.2.2.2.1.tr h2.2⟩)
  · -- one step
    rcases hok with e | e | ⟨e, p, q, e1, e2, e3, e4⟩ | ⟨e, e1⟩ | ⟨e, r, e1, e2⟩ | e | e | e <;> replace e : ok = _ := e
    · subst e
      have h1 : 1 ≤ st.length := Classical.byContradiction fun z => hn (by rw [hnn, if_pos (Or.inl rfl), if_neg z])
      obtain ⟨v, st2, rfl⟩ : ∃ v st2, st = v :: st2 := by
        cases st with
        | nil => simp at h1
        | cons v r => exact ⟨v, r, rfl⟩
      refine one fun {N S S1} hN k0 k9 k3 hs => ?_
      rw [if_neg (by decide), if_neg (by decide), if_neg (by decide), if_pos rfl] at hs
      obtain ⟨S', b1, b2, b3⟩ := e_lengthOf (show 161 ≤ N by omega) k9 k3.2
      exact ⟨S', hs.trans b1, b2, b3.mn (fun q z => by simp at z ⊢; omega)⟩
    · subst e
      have hs15 : st.length < 15 := Classical.byContradiction fun z => hn (by rw [hnn, if_neg (show ¬ ((4 : Int32) = 3 ∨ (4 : Int32) = 8) by decide), if_neg (show ¬ ((4 : Int32) = 7 ∨ (4 : Int32) = 9 ∨ (4 : Int32) = 10) by decide), if_neg z])
      refine one (st' := some (.inr (3, oa, [])) :: st) fun {N S S1} hN k0 k9 k3 hs => ?_
      rw [if_neg (by decide), if_neg (by decide), if_neg (by decide), if_neg (by decide), if_pos rfl] at hs
      obtain ⟨S', b1, b2, b3⟩ := e_value (v := some (.inr (3, oa, []))) (k := 3) (a := oa) (b := 0) k3.2 (by omega) ⟨rfl, fun _ => rfl, fun z => absurd z (by decide), by decide⟩
      exact ⟨S', hs.trans b1, b2, b3.mn (fun q z => by simp at z ⊢; omega)⟩
    · subst e
      have e1' : oa = nI p := e1
      have e2' : ob = nI q := e2
      have hs15 : st.length < 15 := Classical.byContradiction fun z => hn (by rw [hnn, if_neg (show ¬ ((5 : Int32) = 3 ∨ (5 : Int32) = 8) by decide), if_neg (show ¬ ((5 : Int32) = 7 ∨ (5 : Int32) = 9 ∨ (5 : Int32) = 10) by decide), if_neg z])
      show RN (bo + 2) t D tq Q _ (some (some (.inr (4, ob, sl tq oa.toNatClampNeg ob.toNatClampNeg)) :: st, 0)) _
      refine one fun {N S S1} hN k0 k9 k3 hs => ?_
      rw [if_neg (by decide), if_neg (by decide), if_neg (by decide), if_neg (by decide), if_neg (by decide), if_pos rfl] at hs
      have h160 := k9.2.2.2.2.1
      have hde : sDe t tq (1000 + oa) ob (sl tq oa.toNatClampNeg ob.toNatClampNeg) := by
        rw [e1', e2', nI_clamp (show p < 2 ^ 31 by omega), nI_clamp (show q < 2 ^ 31 by omega)]
        have hsl : (sl tq p q).length = q := sl_len e3
        refine ⟨by rw [hsl], by rw [hsl]; exact e4, Or.inr ⟨p, ?_, by rw [hsl]; exact e3, by rw [hsl]⟩⟩
        rw [show (1000 : Int32) = nI 1000 from rfl, nI_add]
      obtain ⟨S', b1, b2, b3⟩ := e_value (v := some (.inr (4, ob, sl tq oa.toNatClampNeg ob.toNatClampNeg))) (k := 4) (a := 1000 + oa) (b := ob) k3.2 (by omega) ⟨rfl, fun z => absurd z (by decide), fun _ => ⟨hde, rfl⟩, by decide⟩
      exact ⟨S', hs.trans b1, b2, b3.mn (fun q z => by simp at z ⊢; omega)⟩
    · subst e
      have e1' : oa = 0 ∨ oa = 1 ∨ oa = 2 := e1
      have hs15 : st.length < 15 := Classical.byContradiction fun z => hn (by rw [hnn, if_neg (show ¬ ((6 : Int32) = 3 ∨ (6 : Int32) = 8) by decide), if_neg (show ¬ ((6 : Int32) = 7 ∨ (6 : Int32) = 9 ∨ (6 : Int32) = 10) by decide), if_neg z])
      refine one (st' := some (.inr (oa, 0, [])) :: st) fun {N S S1} hN k0 k9 k3 hs => ?_
      rw [if_neg (by decide), if_neg (by decide), if_neg (by decide), if_neg (by decide), if_neg (by decide), if_neg (by decide), if_pos rfl] at hs
      obtain ⟨S', b1, b2, b3⟩ := e_value (v := some (.inr (oa, 0, []))) (k := oa) (a := -1) (b := 0) k3.2 (by omega) ⟨rfl, fun z => by rcases e1' with w | w | w <;> rw [w] at z <;> exact absurd z (by decide), fun z => by rcases e1' with w | w | w <;> rw [w] at z <;> exact absurd z (by decide), by rcases e1' with w | w | w <;> rw [w] <;> decide⟩
      exact ⟨S', hs.trans b1, b2, b3.mn (fun q z => by simp at z ⊢; omega)⟩
    · subst e
      have e2' : oa = nI r := e2
      have h1 : 2 ≤ st.length := Classical.byContradiction fun z => hn (by rw [hnn, if_neg (show ¬ ((7 : Int32) = 3 ∨ (7 : Int32) = 8) by decide), if_pos (Or.inl rfl), if_neg z])
      obtain ⟨v, w, st2, rfl⟩ : ∃ v w st2, st = v :: w :: st2 := by
        match st, h1 with
        | v :: w :: r, _ => exact ⟨v, w, r, rfl⟩
      show RN (bo + 2) t D tq Q _ (some (tru (cmpV D oa.toNatClampNeg w v) :: st2, 0)) _
      refine one fun {N S S1} hN k0 k9 k3 hs => ?_
      rw [if_neg (by decide), if_neg (by decide), if_neg (by decide), if_neg (by decide), if_neg (by decide), if_neg (by decide), if_neg (by decide), if_pos rfl] at hs
      obtain ⟨S', b1, b2, b3⟩ := e_compare hN e1 k9 k3.2
      rw [e2', nI_clamp (show r < 2 ^ 31 by omega)]
      rw [e2'] at hs
      exact ⟨S', hs.trans b1, b2, b3⟩
    · subst e
      have h1 : 1 ≤ st.length := Classical.byContradiction fun z => hn (by rw [hnn, if_pos (Or.inr rfl), if_neg z])
      obtain ⟨v, st2, rfl⟩ : ∃ v st2, st = v :: st2 := by
        cases st with
        | nil => simp at h1
        | cons v r => exact ⟨v, r, rfl⟩
      show RN (bo + 2) t D tq Q _ (some (tru (!isT D v) :: st2, 0)) _
      refine one fun {N S S1} hN k0 k9 k3 hs => ?_
      rw [if_neg (by decide), if_neg (by decide), if_neg (by decide), if_neg (by decide), if_neg (by decide), if_neg (by decide), if_neg (by decide), if_neg (by decide)] at hs
      obtain ⟨S', b1, b2, b3⟩ := e_logic1 k3.2
      exact ⟨S', hs.trans b1, b2, b3.mn (fun q z => by simp at z ⊢; omega)⟩
    · subst e
      have h1 : 2 ≤ st.length := Classical.byContradiction fun z => hn (by rw [hnn, if_neg (show ¬ ((9 : Int32) = 3 ∨ (9 : Int32) = 8) by decide), if_pos (Or.inr (Or.inl rfl)), if_neg z])
      obtain ⟨v, w, st2, rfl⟩ : ∃ v w st2, st = v :: w :: st2 := by
        match st, h1 with
        | v :: w :: r, _ => exact ⟨v, w, r, rfl⟩
      show RN (bo + 2) t D tq Q _ (some (tru (isT D w && isT D v) :: st2, 0)) _
      refine one fun {N S S1} hN k0 k9 k3 hs => ?_
      rw [if_neg (by decide), if_neg (by decide), if_neg (by decide), if_neg (by decide), if_neg (by decide), if_neg (by decide), if_neg (by decide), if_neg (by decide)] at hs
      obtain ⟨S', b1, b2, b3⟩ := e_logic2 (x := 9) (Or.inl rfl) k3.2
      exact ⟨S', hs.trans b1, b2, b3.mn (fun q z => by simp at z ⊢; omega)⟩
    · subst e
      have h1 : 2 ≤ st.length := Classical.byContradiction fun z => hn (by rw [hnn, if_neg (show ¬ ((10 : Int32) = 3 ∨ (10 : Int32) = 8) by decide), if_pos (Or.inr (Or.inr rfl)), if_neg z])
      obtain ⟨v, w, st2, rfl⟩ : ∃ v w st2, st = v :: w :: st2 := by
        match st, h1 with
        | v :: w :: r, _ => exact ⟨v, w, r, rfl⟩
      show RN (bo + 2) t D tq Q _ (some (tru (isT D w || isT D v) :: st2, 0)) _
      refine one fun {N S S1} hN k0 k9 k3 hs => ?_
      rw [if_neg (by decide), if_neg (by decide), if_neg (by decide), if_neg (by decide), if_neg (by decide), if_neg (by decide), if_neg (by decide), if_neg (by decide)] at hs
      obtain ⟨S', b1, b2, b3⟩ := e_logic2 (x := 10) (Or.inr rfl) k3.2
      exact ⟨S', hs.trans b1, b2, b3.mn (fun q z => by simp at z ⊢; omega)⟩
/-- all ops of a condition, on top of the pile -/
theorem e_ops {t : List Nat} {D : dS} {tq : List Nat} {Q : cQ} {g f m c ch bo : Nat} {vs : stk} (hf : f < 7) (hD : D.1 ≤ 40) (HP : HPs t tq D Q g (f + 1) m bo) (hc : c < (qc Q).1) (hch : ch < D.1) (hm : vs.length + 15 ≤ m) (hm2 : m ≤ 100) : ∀ (ol pre : List Nat) (st : stk) (q : Nat), (qc Q).2 c = pre ++ ol → (∀ o, o ∈ ol → okO tq (okP tq Q g) ((qo Q).2 o)) → st.length ≤ 15 → okL (qo Q).2 ol st.length = some q →
    RN (ol.length * (bo + 2)) t D tq Q (OPp t tq D f ch vs ol st) (opsE tq (evP tq Q g) (qo Q).2 D ch ol st) (fun st' S S' => OPr t tq D f vs [] st' S S' ∧ st'.length = q) := by
  intro ol
  induction ol with
  | nil =>
    intro pre st q hl ho hs hq
    cases hq
    exact RN.nil fun S h => ⟨⟨h.1, h.2.2.2, lx.rf⟩, rfl⟩
  | cons o rest ih =>
    intro pre st q hl ho hs hq
    have hx : ∀ st', (∃ k, opE tq (evP tq Q g) ((qo Q).2 o) D ch st = some (st', k)) → okL (qo Q).2 [o] st.length = some st'.length ∧ st'.length ≤ 15 := fun st' hk => by
      obtain ⟨k, hk⟩ := hk
      rw [okL] at hq
      rw [okL]
      have h0 := ho o (by simp)
      generalize (qo Q).2 o = op at hk hq h0
      unfold opE at hk
      by_cases c1 : op.1 = 3 ∨ op.1 = 8
      · rw [if_pos c1] at hq
        have h1 : 1 ≤ st.length := Classical.byContradiction fun z => by rw [if_neg z] at hq; cases hq
        have : st'.length = st.length := by
          rcases c1 with e | e <;> simp [e] at hk <;> rw [← hk.1] <;> simp <;> omega
        rw [if_pos c1, if_pos h1, this]
        exact ⟨rfl, hs⟩
      · rw [if_neg c1] at hq
        by_cases c2 : op.1 = 7 ∨ op.1 = 9 ∨ op.1 = 10
        · rw [if_pos c2] at hq
          have h1 : 2 ≤ st.length := Classical.byContradiction fun z => by rw [if_neg z] at hq; cases hq
          have : st'.length = st.length - 1 := by
            rcases c2 with e | e | e <;> simp [e] at hk <;> rw [← hk.1] <;> simp <;> omega
          rw [if_neg c1, if_pos c2, if_pos h1, this]
          exact ⟨rfl, by omega⟩
        · rw [if_neg c2] at hq
          have h1 : st.length < 15 := Classical.byContradiction fun z => by rw [if_neg z] at hq; cases hq
          have : st'.length = st.length + 1 := by
            have fin : ∀ {x : eR (List Nat)} {F : List Nat → Option vQ}, eB x (fun r => some (F r :: st, 0)) = some (st', k) → st'.length = st.length + 1 := fun {x F} h => by
              unfold eB at h
              cases x with
              | none => cases h
              | some w =>
                obtain ⟨a, b⟩ := w
                simp at h
                rw [← h.1]; simp
            rcases h0 with ⟨e | e | e, _⟩ | e | e | ⟨e, _⟩ | ⟨e, _⟩ | ⟨e, _⟩ | e | e | e
            · rw [if_pos e] at hk; exact fin hk
            · rw [if_neg (by rw [e]; decide), if_pos e] at hk; exact fin hk
            · rw [if_neg (by rw [e]; decide), if_neg (by rw [e]; decide), if_pos e] at hk; exact fin hk
            · exact absurd (Or.inl e) c1
            · simp [e] at hk; rw [← hk.1]; simp
            · simp [e] at hk; rw [← hk.1]; simp
            · simp [e] at hk; rw [← hk.1]; simp
            · exact absurd (Or.inl e) c2
            · exact absurd (Or.inr e) c1
            · exact absurd (Or.inr (Or.inl e)) c2
            · exact absurd (Or.inr (Or.inr e)) c2
          rw [if_neg c1, if_neg c2, if_pos h1, this]
          exact ⟨rfl, by omega⟩
    have hn : okL (qo Q).2 [o] st.length ≠ none := fun z => by
      rw [okL] at z hq
      repeat' split at z
      all_goals first | (cases z; done) | skip
      all_goals simp_all
    have p1 := e_op (o := o) (rest := rest) hf hD HP hc hl (ho o (by simp)) hch hm hm2 hn hs
    refine RN.mn (RN.bd (b1 := bo + 2) (b2 := rest.length * (bo + 2)) p1 (P2 := fun st' S => OPp t tq D f ch vs rest st' S) (R2 := fun st' st2 S S' => OPr t tq D f vs [] st2 S S' ∧ st2.length = q) (fun st' k hk _ => ?_) (fun st' S S' hP hR => ?_) (fun st' b S S' S'' hP h1 h2 => ?_)) (by rw [List.length_cons, Nat.succ_mul]; omega)
    · obtain ⟨x1, x2⟩ := hx st' ⟨k, hk⟩
      refine ih (pre ++ [o]) st' q (by rw [hl]; simp) (fun o ho' => ho o (by simp [ho'])) x2 ?_
      rw [← hq, show o :: rest = [o] ++ rest from rfl, okL_app x1]
    · exact ⟨hR.1, by rw [hR.2.2.2.1 62 (by omega) (by omega) (by decide)]; exact hP.2.1, by rw [hR.2.2.2.1 70 (by omega) (by omega) (by decide)]; exact hP.2.2.1, hR.2.1⟩
    · exact ⟨⟨h2.1.1, h2.1.2.1, h1.2.2.tr h2.1.2.2 (fun _ z => z) (fun _ z => z)⟩, h2.2⟩
