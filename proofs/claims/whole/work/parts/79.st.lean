/-! selectors are run -/
theorem RN.sq {α β : Type} {b1 b2 : Nat} {t : List Nat} {D : dS} {tq : List Nat} {Q : cQ} {P : md_S → Prop} {x : eR α} {J : List Nat} {f : Nat} {F : α → eR β} {P2 : α → md_S → Prop} {P3 : β → md_S → Prop} (h : RN b1 t D tq Q P x (fun a S S' => P2 a S' ∧ lx J f S S')) (h2 : ∀ a k, x = some (a, k) → (∃ S, P2 a S) → RN b2 t D tq Q (P2 a) (F a) (fun b S S' => P3 b S' ∧ lx J f S S')) : RN (b1 + b2) t D tq Q P (eB x F) (fun b S S' => P3 b S' ∧ lx J f S S') :=
  RN.bd h (P2 := P2) (R2 := fun _ b S S' => P3 b S' ∧ lx J f S S') (fun a k hx ⟨S, S', _, h⟩ => h2 a k hx ⟨S', h.1⟩) (fun a S S' _ h => h.1) (fun a b S S' S'' _ h1 h2 => ⟨h2.1, h1.2.tr h2.2 (fun _ z => z) (fun _ z => z)⟩)
theorem RN.eq {α : Type} {bo : Nat} {t : List Nat} {D : dS} {tq : List Nat} {Q : cQ} {P : md_S → Prop} {x y : eR α} {R : α → md_S → md_S → Prop} (h : RN bo t D tq Q P x R) (e : y = x) : RN bo t D tq Q P y R := by rw [e]; exact h
theorem tp.f {t tq : List Nat} {D : dS} {f : Nat} {vs : stk} {S S' : md_S} {K : List Nat} (h : tp t tq D f vs S) (g : rF K S S') (hk : ∀ k, k ∈ K → (k < 76 ∨ 79 < k) ∧ k ≠ 59) : tp t tq D f vs S' := ⟨by rw [(g 59 (fun z => (hk _ z).2 rfl)).1]; exact h.1, h.2.f g (fun k z => (hk k z).1)⟩
def lt40 (D : dS) (l : List Nat) : Prop := ∀ x, x ∈ l → x < D.1
def P3 (t tq : List Nat) (D : dS) (f : Nat) (vs : stk) (n c b : Nat) (nx : List Nat) (S : md_S) : Prop := tp t tq D f vs S ∧ S.2 62 f = 3 ∧ S.2 67 f = nI n ∧ S.2 69 f = nI c ∧ S.2 70 f = nI b ∧ rNxt f nx S ∧ lt40 D nx
def P4 (t tq : List Nat) (D : dS) (f : Nat) (vs : stk) (n c ch : Nat) (nx ol : List Nat) (st : stk) (S : md_S) : Prop := OPp t tq D f ch vs ol st S ∧ S.2 67 f = nI n ∧ S.2 69 f = nI c ∧ rNxt f nx S ∧ lt40 D nx ∧ (ol = [] → st.length = 1)
def P2' (t tq : List Nat) (D : dS) (f : Nat) (vs : stk) (nx : List Nat) (S : md_S) : Prop := tp t tq D f vs S ∧ S.2 62 f = 2 ∧ rNxt f nx S ∧ lt40 D nx
def J3 : List Nat := [62, 70, 71, 73, 75]
theorem e_cond {t : List Nat} {D : dS} {tq : List Nat} {Q : cQ} {g f m c n bo : Nat} {vs : stk} (hf : f < 7) (hW : dW t D) (HP : HPs t tq D Q g (f + 1) m bo) (hc : c < (qc Q).1) (hc2 : (qc Q).1 ≤ 50) (hn : n < D.1) (hm : vs.length + 15 ≤ m) (hm2 : m ≤ 100) (hok : okL (qo Q).2 ((qc Q).2 c) 0 = some 1) (hoo : ∀ o, o ∈ (qc Q).2 c → okO tq (okP tq Q g) ((qo Q).2 o)) : ∀ (ks : List Nat) (b : Nat) (nx : List Nat), n ≤ b → b ≤ 41 → ks = kidsB D n b →
    RN (ks.length * (((qc Q).2 c).length * (bo + 2) + 2) + 1) t D tq Q (P3 t tq D f vs n c b nx) (selC (cndE tq (evP tq Q g) (qo Q).2 ((qc Q).2 c)) D ks nx) (fun nx' S S' => P2' t tq D f vs nx' S' ∧ lx J3 f S S') := by
  obtain ⟨gg, hI⟩ := hW.1
  have h40 := hI.1.1
  intro ks
  induction ks with
  | nil =>
    intro b nx hb hb2 hk
    refine RN.mn (RN.on0 (fun S h => h.1.n0 (by omega)) fun N hN S hS h60 h => ?_) (Nat.le_add_left _ _)
    obtain ⟨h1, h2, h3, h4, h5, h6, h7⟩ := h
    have e1 : mo_step N S = some (md_w S 62 f 2) := by
      unfold mo_step mo_stepChild
      simp only [h1.1, nI_pred, if_pos (nI_in (show f < 8 by omega) (by omega)), nI_clamp (show f < 2 ^ 31 by omega), h2, h3, h5, hS.kid hn hb hb2 (show 161 ≤ N by omega), ← hk, md_bs, md_lx, if_pos (show oI ([] : List Nat).head? = -1 from rfl), md_cs]
      rw [if_neg (by decide), if_neg (by decide), if_neg (by decide), if_pos trivial]
    have f1 : rF [62] S (md_w S 62 f 2) := rF.rf.w (by decide)
    refine ⟨_, e1, f1.mn (fun q z => by simp at z; exact KM_in (by omega) (by omega)), rfl, rfl, ⟨h1.f f1 (fun q z => by simp at z; omega), md_w_s, h6.f f1 (by decide) (by decide), h7⟩, lx.rf.w (by decide) (by decide) (by decide)⟩
  | cons ch r ih =>
    intro b nx hb hb2 hk
    obtain ⟨c1, c2, c3, c4⟩ := kidsB_c hk.symm
    have hE : selC (cndE tq (evP tq Q g) (qo Q).2 ((qc Q).2 c)) D (ch :: r) nx = eB (some ((), 0)) fun _ => eB (opsE tq (evP tq Q g) (qo Q).2 D ch ((qc Q).2 c) []) fun st => eB (e0 (if isT D (st.headD none) = true then addR nx ch else some nx)) fun row' => selC (cndE tq (evP tq Q g) (qo Q).2 ((qc Q).2 c)) D r row' := by
      rw [eB_s, selC]
      unfold cndE
      rw [eB_a]
      congr 1
      funext st
      rw [eB_s]
    rw [hE]
    -- to the child
    have pA : RN 1 t D tq Q (P3 t tq D f vs n c b nx) (some ((), 0)) (fun _ S S' => P4 t tq D f vs n c ch nx ((qc Q).2 c) [] S' ∧ lx J3 f S S') := by
      refine RN.on0 (fun S h => h.1.n0 (by omega)) fun N hN S hS h60 h => ?_
      obtain ⟨h1, h2, h3, h4, h5, h6, h7⟩ := h
      have hl := chn_h (hS.2.1.2.2.2.2.2.2.2.2 c hc).1
      have e1 : mo_step N S = some (md_w (md_w (md_w S 70 f (nI ch)) 71 f (oI ((qc Q).2 c).head?)) 62 f 4) := by
        unfold mo_step mo_stepChild
        simp only [h1.1, nI_pred, if_pos (nI_in (show f < 8 by omega) (by omega)), nI_clamp (show f < 2 ^ 31 by omega), h2, h3, h5, hS.kid hn hb hb2 (show 161 ≤ N by omega), ← hk, md_bs, md_lx, if_neg (show ¬ oI (ch :: r).head? = -1 from nI_m1 (by omega)), md_cs, md_w_k (show (69 : Nat) ≠ 70 by decide), h4, if_pos (nI_in (show c < 50 by omega) (by omega)), nI_clamp (show c < 2 ^ 31 by omega), md_w_k (show (49 : Nat) ≠ 70 by decide), hl]
        rw [if_neg (by decide), if_neg (by decide), if_neg (by decide), if_pos trivial]
        rfl
      have f1 : rF [62, 70, 71] S (md_w (md_w (md_w S 70 f (nI ch)) 71 f (oI ((qc Q).2 c).head?)) 62 f 4) := ((rF.rf.w (by decide)).w (by decide)).w (by decide)
      refine ⟨_, e1, f1.mn (fun q z => by simp at z; exact KM_in (by omega) (by omega)), rfl, rfl, ⟨⟨h1.f f1 (fun q z => by simp at z; omega), md_w_s, ?_, ?_⟩, ?_, ?_, h6.f f1 (by decide) (by decide), h7, fun z => ?_⟩, ((lx.rf.w (by decide) (by decide) (by decide)).w (by decide) (by decide) (by decide)).w (by decide) (by decide) (by decide)⟩
      · rw [md_w_k (by decide), md_w_k (by decide), md_w_s]
      · rw [md_w_k (by decide), md_w_s]
      · rw [md_w_k (by decide), md_w_k (by decide), md_w_k (by decide)]; exact h3
      · rw [md_w_k (by decide), md_w_k (by decide), md_w_k (by decide)]; exact h4
      · rw [z] at hok; cases hok
    refine RN.mn (bo := 1 + (((qc Q).2 c).length * (bo + 2) + (1 + (r.length * (((qc Q).2 c).length * (bo + 2) + 2) + 1)))) (RN.sq pA fun _ _ _ _ => ?_) (by rw [List.length_cons, Nat.succ_mul]; omega)
    have pB : RN (((qc Q).2 c).length * (bo + 2)) t D tq Q (P4 t tq D f vs n c ch nx ((qc Q).2 c) []) (opsE tq (evP tq Q g) (qo Q).2 D ch ((qc Q).2 c) []) (fun st S S' => P4 t tq D f vs n c ch nx [] st S' ∧ lx J3 f S S') := by
      refine RN.w (e_ops hf h40 HP hc c3 hm hm2 ((qc Q).2 c) [] [] 1 rfl hoo (by simp) hok) (fun S h => h.1) (fun st k S S' _ h hr => ?_)
      obtain ⟨⟨r1, r2, r3⟩, r4⟩ := hr
      obtain ⟨h1, h2, h3, h4, h5, h6⟩ := h
      exact ⟨⟨⟨r1, by rw [r3.2.1 62 (by omega) (by omega) (by decide)]; exact h1.2.1, by rw [r3.2.1 70 (by omega) (by omega) (by decide)]; exact h1.2.2.1, r2⟩, by rw [r3.2.1 67 (by omega) (by omega) (by decide)]; exact h2, by rw [r3.2.1 69 (by omega) (by omega) (by decide)]; exact h3, h4.lx r3 (by decide) (by decide), h5, fun _ => r4⟩, r3.mn (fun x z => by simp at z; rw [z]; decide)⟩
    refine RN.sq pB fun st k _ hex => ?_
    obtain ⟨_, _, _, _, _, _, hst⟩ := hex
    obtain ⟨v, rfl⟩ : ∃ v, st = [v] := by
      have := hst rfl
      match st, this with
      | [v], _ => exact ⟨v, rfl⟩
    have pC : RN 1 t D tq Q (P4 t tq D f vs n c ch nx [] [v]) (e0 (if isT D v = true then addR nx ch else some nx)) (fun row' S S' => P3 t tq D f vs n c ch row' S' ∧ lx J3 f S S') := by
      refine RN.one (fun S h => h.1.1.n0 (by omega)) fun N hN S G hS h60 h61 hG h => ?_
      obtain ⟨⟨o1, o2, o3, o4⟩, h2, h3, h4, h5, h6⟩ := h
      obtain ⟨t1, t2⟩ := e_truth o1.2
      have f0 : rF [76] S (md_p S 76 (nI vs.length)) := rF.rf.p (by decide)
      have o4' : S.2 71 f = -1 := o4
      have hst : mo_step N S = (if isT D v = true then md_c (mo_add (nI f) (nI ch) (md_p S 76 (nI vs.length))) fun S27 => some (md_w S27 62 f 3) else some (md_w (md_p S 76 (nI vs.length)) 62 f 3)) := by
        unfold mo_step mo_stepOp mo_stepOp_j30
        simp only [o1.1, nI_pred, if_pos (nI_in (show f < 8 by omega) (by omega)), nI_clamp (show f < 2 ^ 31 by omega), o2, o4', t1, md_bs, md_lx, bI_0, md_p2, o3, md_ci]
        rw [if_neg (by decide), if_neg (by decide), if_neg (by decide), if_neg (by decide), if_pos trivial]
        cases isT D v <;> rfl
      have hT0 : tp t tq D f vs (md_p S 76 (nI vs.length)) := ⟨o1.1, t2⟩
      cases hv : isT D v with
      | false =>
        rw [hv, if_neg (by decide)] at hst
        have f1 : rF [62, 76] S (md_w (md_p S 76 (nI vs.length)) 62 f 3) := (rF.rf.p (by decide)).w (by decide)
        have f2 : rF [62] (md_p S 76 (nI vs.length)) (md_w (md_p S 76 (nI vs.length)) 62 f 3) := rF.rf.w (by decide)
        refine ⟨_, hst, f1.mn (fun q z => by simp at z; exact KM_in (by omega) (by omega)), fun a k hx hk => ?_, fun ho => ?_⟩
        · have hx' : some (nx, 0) = some (a, k) := hx
          simp only [Option.some.injEq, Prod.mk.injEq] at hx'
          obtain ⟨rfl, rfl⟩ := hx'
          refine ⟨h60, h61, ⟨hT0.f f2 (fun q z => by simp at z; omega), md_w_s, ?_, ?_, ?_, h4.f f1 (by decide) (by decide), h5⟩, (lx.rf.p).w (by decide) (by decide) (by decide)⟩
          · rw [md_w_k (by decide)]; exact h2
          · rw [md_w_k (by decide)]; exact h3
          · rw [md_w_k (by decide)]; exact o3
        · exfalso
          rcases ho with z | ⟨a, k, z, z2⟩
          · cases z
          · have z' : some (nx, 0) = some (a, k) := z
            simp only [Option.some.injEq, Prod.mk.injEq] at z'
            omega
      | true =>
        rw [hv, if_pos rfl] at hst
        obtain ⟨S1, a1, a2⟩ := e_add (f := f) (c := ch) (row := nx) (S := md_p S 76 (nI vs.length)) (by omega) (h4.f f0 (by decide) (by decide))
        rw [a1] at hst
        have hst' : mo_step N S = some (md_w S1 62 f 3) := hst
        have f1 : rF [60, 73, 75, 76] S S1 := f0.tr a2.2.2.1 (fun q z => by simp at z ⊢; omega) (fun q z => by simp at z ⊢; omega)
        have f2 : rF [62] S1 (md_w S1 62 f 3) := rF.rf.w (by decide)
        have f3 : rF [60, 62, 73, 75, 76] S (md_w S1 62 f 3) := f1.tr f2 (fun q z => by simp at z ⊢; omega) (fun q z => by simp at z ⊢; omega)
        have e60 : S1.1 60 = ovI (addsT nx [ch]).2 0 := by rw [a2.2.1]; congr 1
        have hadd : addR nx ch = if (addsT nx [ch]).2 = true then none else some (addsT nx [ch]).1 := by
          rw [← addsR_T, addsR]
          cases addR nx ch <;> rfl
        refine ⟨_, hst', f3.mn (fun q z => by simp at z; exact KM_in (by omega) (by omega)), fun a k hx hk => ?_, fun ho => ?_⟩
        · rw [if_pos rfl, hadd] at hx
          cases hb2 : (addsT nx [ch]).2 with
          | true => rw [hb2] at hx; cases hx
          | false =>
            rw [hb2] at hx e60
            have hx' : some ((addsT nx [ch]).1, 0) = some (a, k) := hx
            simp only [Option.some.injEq, Prod.mk.injEq] at hx'
            obtain ⟨rfl, rfl⟩ := hx'
            refine ⟨e60, by rw [show (md_w S1 62 f 3).1 61 = S1.1 61 from rfl, (f1 61 (by decide)).1]; exact h61, ⟨(hT0.f a2.2.2.1 (fun q z => by simp at z; omega)).f f2 (fun q z => by simp at z; omega), md_w_s, ?_, ?_, ?_, a2.1.f f2 (by decide) (by decide), addsT_lt h5 (fun x hx => by rw [List.mem_singleton.mp hx]; exact c3)⟩, ?_⟩
            · rw [(f3 67 (by decide)).2]; exact h2
            · rw [(f3 69 (by decide)).2]; exact h3
            · rw [(f3 70 (by decide)).2]; exact o3
            · exact (lx.tr (J := J3) (lx.fr (J := J3) f0 (fun q z => by simp at z; omega)) (lx.ad (J := J3) a2 (by decide) (by decide)) (fun _ z => z) (fun _ z => z)).w (by decide) (by decide) (by decide)
        · show (md_w S1 62 f 3).1 60 = 1
          rw [show (md_w S1 62 f 3).1 60 = S1.1 60 from rfl, e60]
          rw [if_pos rfl, hadd] at ho
          cases hb2 : (addsT nx [ch]).2 with
          | true => rfl
          | false =>
            exfalso
            rw [hb2] at ho
            rcases ho with z | ⟨a, k, z, z2⟩
            · cases z
            · have z' : some ((addsT nx [ch]).1, 0) = some (a, k) := z
              simp only [Option.some.injEq, Prod.mk.injEq] at z'
              omega
    refine RN.sq (RN.eq pC rfl) fun row' k _ _ => ?_
    exact ih ch row' (by omega) (by omega) c1.symm
