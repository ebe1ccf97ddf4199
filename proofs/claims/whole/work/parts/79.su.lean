def P2s (t tq : List Nat) (D : dS) (f : Nat) (vs : stk) (n : Nat) (ks nx : List Nat) (S : md_S) : Prop := tp t tq D f vs S ∧ S.2 62 f = 2 ∧ S.2 67 f = nI n ∧ S.2 68 f = oI ks.head? ∧ rNxt f nx S ∧ lt40 D nx
def P1' (t tq : List Nat) (D : dS) (f : Nat) (vs : stk) (nx : List Nat) (S : md_S) : Prop := tp t tq D f vs S ∧ S.2 62 f = 1 ∧ rNxt f nx S ∧ lt40 D nx
def cB (bo : Nat) : Nat := 40 * (170 * (bo + 2) + 2) + 1
def J2 : List Nat := [62, 68, 69, 70, 71, 73, 75]
theorem e_sels {t : List Nat} {D : dS} {tq : List Nat} {Q : cQ} {g f m n s bo : Nat} {vs : stk} (hf : f < 7) (hW : dW t D) (HP : HPs t tq D Q g (f + 1) m bo) (hqb : (qk Q).1 ≤ 170 ∧ (qc Q).1 ≤ 50) (hn : n < D.1) (hm : vs.length + 15 ≤ m) (hm2 : m ≤ 100) (hs : s < (qg Q).1) (hcl : ∀ c, c < (qc Q).1 → ((qc Q).2 c).length ≤ 170) : ∀ (ks pre : List Nat) (nx : List Nat), (qg Q).2.2 s = pre ++ ks → (∀ k, k ∈ ks → okK tq Q (okP tq Q g) ((qk Q).2 k)) →
    RN (ks.length * (cB bo + 1) + 1) t D tq Q (P2s t tq D f vs n ks nx) (selsR D n (ks.map fun k => selE tq (evP tq Q g) Q ((qk Q).2 k)) nx) (fun nx' S S' => P1' t tq D f vs nx' S' ∧ lx J2 f S S') := by
  obtain ⟨gg, hI⟩ := hW.1
  have h40 := hI.1.1
  intro ks
  induction ks with
  | nil =>
    intro pre nx hl hok
    refine RN.mn (RN.on0 (fun S h => h.1.n0 (by omega)) fun N hN S hS h60 h => ?_) (Nat.le_add_left _ _)
    obtain ⟨h1, h2, h3, h4, h5, h6⟩ := h
    have h4' : S.2 68 f = -1 := h4
    have e1 : mo_step N S = some (md_w S 62 f 1) := by
      unfold mo_step mo_stepSelector
      simp only [h1.1, nI_pred, if_pos (nI_in (show f < 8 by omega) (by omega)), nI_clamp (show f < 2 ^ 31 by omega), h2, h4', md_lx]
      rw [if_neg (by decide), if_neg (by decide), if_pos trivial, if_pos trivial]
      rfl
    have f1 : rF [62] S (md_w S 62 f 1) := rF.rf.w (by decide)
    refine ⟨_, e1, f1.mn (fun q z => by simp at z; exact KM_in (by omega) (by omega)), rfl, rfl, ⟨h1.f f1 (fun q z => by simp at z; omega), md_w_s, h5.f f1 (by decide) (by decide), h6⟩, lx.rf.w (by decide) (by decide) (by decide)⟩
  | cons k r ih =>
    intro pre nx hl hok
    have hok1 := hok k (by simp)
    have ih' : ∀ nx', RN (r.length * (cB bo + 1) + 1) t D tq Q (P2s t tq D f vs n r nx') (selsR D n (r.map fun k => selE tq (evP tq Q g) Q ((qk Q).2 k)) nx') (fun nx' S S' => P1' t tq D f vs nx' S' ∧ lx J2 f S S') := fun nx' => ih (pre ++ [k]) nx' (by rw [hl]; simp) (fun k' hk' => hok k' (by simp [hk']))
    rw [List.map_cons]
    refine RN.mn (bo := (cB bo + 1) + (r.length * (cB bo + 1) + 1)) ?_ (by rw [List.length_cons, Nat.succ_mul]; omega)
    show RN _ t D tq Q _ (eB (selE tq (evP tq Q g) Q ((qk Q).2 k) D n nx) fun row' => selsR D n (r.map fun k => selE tq (evP tq Q g) Q ((qk Q).2 k)) row') _
    -- taking the selector
    have stp : ∀ {N : Nat} {S : md_S}, rSt t D tq Q S → P2s t tq D f vs n (k :: r) nx S → k < (qk Q).1 ∧ mo_step N S = (if ((qk Q).2 k).1 = 4 then some (md_w (md_w (md_w (md_w S 68 f (oI r.head?)) 69 f ((qk Q).2 k).2.1) 70 f (nI n)) 62 f 3) else mo_select N (nI f) (nI k) (md_w S 68 f (oI r.head?))) := fun {N S} hS h => by
      obtain ⟨h1, h2, h3, h4, h5, h6⟩ := h
      have h4' : S.2 68 f = nI k := h4
      obtain ⟨n1, n2⟩ := rLs_n hS.2.1.2.2.2.2.2.2.2.1 hs hl
      have ck := hS.2.1.2.2.2.2.1 k n2
      refine ⟨n2, ?_⟩
      unfold mo_step mo_stepSelector
      simp only [h1.1, nI_pred, if_pos (nI_in (show f < 8 by omega) (by omega)), nI_clamp (show f < 2 ^ 31 by omega), h2, h4', if_neg (show ¬ nI k = -1 from nI_m1 (by omega)), if_pos (nI_in (show k < 170 by omega) (by omega)), nI_clamp (show k < 2 ^ 31 by omega), n1, md_lx, md_w_k (show (43 : Nat) ≠ 68 by decide), md_w_k (show (45 : Nat) ≠ 68 by decide), md_w_k (show (67 : Nat) ≠ 68 by decide), md_w_k (show (67 : Nat) ≠ 69 by decide), h3, ck.1, ck.2.1, md_ci]
      rw [if_neg (by decide), if_neg (by decide), if_pos trivial]
    by_cases h4 : ((qk Q).2 k).1 = 4
    · have hk4 : ∃ c, c < (qc Q).1 ∧ ((qk Q).2 k).2.1 = nI c ∧ okL (qo Q).2 ((qc Q).2 c) 0 = some 1 ∧ ∀ o, o ∈ (qc Q).2 c → okO tq (okP tq Q g) ((qo Q).2 o) := by
        rcases hok1 with ⟨e, _⟩ | e | ⟨e, _⟩ | ⟨e, _⟩ | ⟨e, e2⟩
        · rw [e] at h4; exact absurd h4 (by decide)
        · rw [e] at h4; exact absurd h4 (by decide)
        · rw [e] at h4; exact absurd h4 (by decide)
        · rw [e] at h4; exact absurd h4 (by decide)
        · exact e2
      obtain ⟨c, hc, ec, oc, oo⟩ := hk4
      have hE : selE tq (evP tq Q g) Q ((qk Q).2 k) D n nx = eB (some ((), 0)) fun _ => selC (cndE tq (evP tq Q g) (qo Q).2 ((qc Q).2 c)) D (kidsB D n n) nx := by
        rw [eB_s, kidsB_0 hI hn]
        unfold selE
        rw [h4, if_neg (by decide), if_neg (by decide), if_neg (by decide), if_neg (by decide), ec, nI_clamp (show c < 2 ^ 31 by omega)]
        rfl
      have pA : RN 1 t D tq Q (P2s t tq D f vs n (k :: r) nx) (some ((), 0)) (fun _ S S' => (P3 t tq D f vs n c n nx S' ∧ S'.2 68 f = oI r.head?) ∧ lx J2 f S S') := by
        refine RN.on0 (fun S h => h.1.n0 (by omega)) fun N hN S hS h60 h => ?_
        obtain ⟨n2, st⟩ := stp (N := N) hS h
        rw [if_pos h4, ec] at st
        obtain ⟨h1, h2, h3, h4, h5, h6⟩ := h
        have f1 : rF [62, 68, 69, 70] S (md_w (md_w (md_w (md_w S 68 f (oI r.head?)) 69 f (nI c)) 70 f (nI n)) 62 f 3) := (((rF.rf.w (by decide)).w (by decide)).w (by decide)).w (by decide)
        refine ⟨_, st, f1.mn (fun q z => by simp at z; exact KM_in (by omega) (by omega)), rfl, rfl, ⟨⟨h1.f f1 (fun q z => by simp at z; omega), md_w_s, ?_, ?_, ?_, h5.f f1 (by decide) (by decide), h6⟩, ?_⟩, (((lx.rf.w (by decide) (by decide) (by decide)).w (by decide) (by decide) (by decide)).w (by decide) (by decide) (by decide)).w (by decide) (by decide) (by decide)⟩
        · rw [(f1 67 (by decide)).2]; exact h3
        · rw [md_w_k (by decide), md_w_k (by decide), md_w_s]
        · rw [md_w_k (by decide), md_w_s]
        · rw [md_w_k (by decide), md_w_k (by decide), md_w_k (by decide), md_w_s]
      rw [hE, eB_a]
      refine RN.mn (bo := 1 + (cB bo + (r.length * (cB bo + 1) + 1))) (RN.sq pA fun _ _ _ _ => ?_) (by omega)
      have pB := e_cond hf hW HP hc hqb.2 hn hm hm2 oc oo (kidsB D n n) n nx (Nat.le_refl _) (by omega) rfl
      have pB' : RN (cB bo) t D tq Q (fun S => P3 t tq D f vs n c n nx S ∧ S.2 68 f = oI r.head?) (selC (cndE tq (evP tq Q g) (qo Q).2 ((qc Q).2 c)) D (kidsB D n n) nx) (fun nx' S S' => P2s t tq D f vs n r nx' S' ∧ lx J2 f S S') := by
        refine RN.w (RN.mn pB (by
          unfold cB
          have h1 := hcl c hc
          have h2 : (kidsB D n n).length ≤ 40 := by rw [kidsB_0 hI hn]; exact kids_len hI hn
          have h3 : ((qc Q).2 c).length * (bo + 2) ≤ 170 * (bo + 2) := Nat.mul_le_mul_right _ h1
          have h4 : (kidsB D n n).length * (((qc Q).2 c).length * (bo + 2) + 2) ≤ 40 * (170 * (bo + 2) + 2) := Nat.mul_le_mul h2 (by omega)
          omega)) (fun S h => h.1) (fun nx' kk S S' _ h hr => ?_)
        obtain ⟨⟨r1, r2, r3, r4⟩, r5⟩ := hr
        obtain ⟨h1, h2⟩ := h
        refine ⟨⟨r1, r2, by rw [r5.2.1 67 (by omega) (by omega) (by decide)]; exact h1.2.2.1, by rw [r5.2.1 68 (by omega) (by omega) (by decide)]; exact h2, r3, r4⟩, r5.mn (fun x z => by unfold J3 at z; unfold J2; simp at z ⊢; omega)⟩
      exact RN.sq pB' fun nx' _ _ _ => ih' nx'
    · -- one step
      have pA : RN (cB bo + 1) t D tq Q (P2s t tq D f vs n (k :: r) nx) (selE tq (evP tq Q g) Q ((qk Q).2 k) D n nx) (fun nx' S S' => P2s t tq D f vs n r nx' S' ∧ lx J2 f S S') := by
        refine RN.mn (RN.one (fun S h => h.1.n0 (by omega)) fun N hN S G hS h60 h61 hG h => ?_) (Nat.le_add_left _ _)
        obtain ⟨n2, st⟩ := stp (N := N) hS h
        rw [if_neg h4] at st
        obtain ⟨h1, h2, h3, h4', h5, h6⟩ := h
        obtain ⟨S0, e0'⟩ : ∃ S0, S0 = md_w S 68 f (oI r.head?) := ⟨_, rfl⟩
        rw [← e0'] at st
        have f0 : rF [68] S S0 := by rw [e0']; exact rF.rf.w (by decide)
        have l0 : lx J2 f S S0 := by rw [e0']; exact lx.rf.w (by decide) (by decide) (by decide)
        have g68 : S0.2 68 f = oI r.head? := by rw [e0']; exact md_w_s
        obtain ⟨cs, S', s1, s2, s3, s4⟩ := e_select (N := N) (show f < 8 by omega) hn (show 3000 ≤ N by omega) (hS.f f0 (fun q z => by simp at z; omega)) (by rw [(f0 67 (by decide)).2]; exact h3) (h5.f f0 (by decide) (by decide)) n2 hok1 h4
        have f1 : rF [60, 68, 73, 75] S S' := f0.tr s4.2.2.1 (fun q z => by simp at z ⊢; omega) (fun q z => by simp at z ⊢; omega)
        rw [s2 (evP tq Q g) nx, addsR_T]
        have e60 : S'.1 60 = ovI (addsT nx cs).2 0 := by rw [s4.2.1, (f0 60 (by decide)).1, h60]
        refine ⟨S', st.trans s3, f1.mn (fun q z => by simp at z; exact KM_in (by omega) (by omega)), fun a kk hx hk => ?_, fun ho => ?_⟩
        · cases hb2 : (addsT nx cs).2 with
          | true => rw [hb2] at hx; cases hx
          | false =>
            rw [hb2] at hx e60
            have hx' : some ((addsT nx cs).1, 0) = some (a, kk) := hx
            simp only [Option.some.injEq, Prod.mk.injEq] at hx'
            obtain ⟨rfl, rfl⟩ := hx'
            refine ⟨e60, by rw [(f1 61 (by decide)).1]; exact h61, ⟨h1.f f1 (fun q z => by simp at z; omega), by rw [(f1 62 (by decide)).2]; exact h2, by rw [(f1 67 (by decide)).2]; exact h3, by rw [(s4.2.2.1 68 (by decide)).2]; exact g68, s4.1, addsT_lt h6 s1⟩, l0.tr (lx.ad s4 (J := J2) (by decide) (by decide)) (fun _ z => z) (fun _ z => z)⟩
        · rw [e60]
          cases hb2 : (addsT nx cs).2 with
          | true => rfl
          | false =>
            exfalso
            rw [hb2] at ho
            rcases ho with z | ⟨a, kk, z, z2⟩
            · cases z
            · have z' : some ((addsT nx cs).1, 0) = some (a, kk) := z
              simp only [Option.some.injEq, Prod.mk.injEq] at z'
              omega
      exact RN.sq pA fun nx' _ _ _ => ih' nx'
