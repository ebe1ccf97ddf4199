/-! conditions are run -/
theorem chn_h {X : Nat → Int32} {F : Int32} : ∀ {l : List Nat}, chn X F l → F = oI l.head?
  | [], h => h
  | x :: r, h => h.1
theorem chn_n {X : Nat → Int32} {x : Nat} {r : List Nat} : ∀ {l : List Nat} {F : Int32}, chn X F (l ++ x :: r) → X x = oI r.head?
  | [], F, h => chn_h h.2
  | y :: l, F, h => chn_n h.2
theorem rLs_n {X F L : Nat → Int32} {m n a : Nat} {ls : Nat → List Nat} (h : rLs X F L m n ls) (ha : a < m) {l r : List Nat} {x : Nat} (hl : ls a = l ++ x :: r) : X x = oI r.head? ∧ x < n := by
  obtain ⟨h1, _, _, h4, _⟩ := h a ha
  rw [hl] at h1
  exact ⟨chn_n h1, h4 x (by rw [hl]; simp)⟩
def tp (t tq : List Nat) (D : dS) (f : Nat) (vs : stk) (S : md_S) : Prop := S.1 59 = nI (f + 1) ∧ rVs t tq D vs S
def PP (t tq : List Nat) (D : dS) (Q : cQ) (f a : Nat) (u : Int32) (n : Nat) (vs : stk) (S : md_S) : Prop := tp t tq D f vs S ∧ S.2 62 f = 0 ∧ S.2 63 f = u ∧ S.2 64 f = oI ((qp Q).2.2 a).head? ∧ rRow f [if ((qp Q).2.1 a).2 = true then 0 else n] S
def PR (t tq : List Nat) (D : dS) (f : Nat) (vs : stk) (row : List Nat) (S S' : md_S) : Prop := tp t tq D f vs S' ∧ S'.2 62 f = 0 ∧ S'.2 64 f = -1 ∧ S'.2 63 f = S.2 63 f ∧ rRow f row S' ∧ low f S S' ∧ ∀ x, x ∈ row → x < D.1
def HPs (t tq : List Nat) (D : dS) (Q : cQ) (g f m bo : Nat) : Prop := ∀ a, okP tq Q g a → ∀ (u : Int32) (n : Nat) (vs : stk), n < D.1 → vs.length ≤ m → RN bo t D tq Q (PP t tq D Q f a u n vs) (evP tq Q g a D n) (PR t tq D f vs)
theorem tp.n0 {t tq : List Nat} {D : dS} {f : Nat} {vs : stk} {S : md_S} (h : tp t tq D f vs S) (hf : f < 8) : ¬ S.1 59 ≤ 0 := by
  rw [h.1]
  exact nI_nle (by omega) (by omega)
theorem e_enter {t : List Nat} {D : dS} {tq : List Nat} {Q : cQ} {S : md_S} {k a x : Nat} {u : Int32} (hS : rSt t D tq Q S) (h : S.1 59 = nI k) (hk : k < 8) (ha : a < (qp Q).1) : ∃ S', mo_enter (nI a) (nI x) u S = some S' ∧ S'.1 59 = nI (k + 1) ∧ S'.2 62 k = 0 ∧ S'.2 63 k = u ∧ S'.2 64 k = oI ((qp Q).2.2 a).head? ∧ rRow k [x] S' ∧ low k S S' ∧ rF [59, 62, 63, 64, 72, 74] S S' := by
  have hq := hS.2.1.2.1.1
  have hl := chn_h (hS.2.1.2.2.2.2.2.2.1 a ha).1
  have e300 : (300 : Int32) * nI k = nI (300 * k) := by rw [show (300 : Int32) = nI 300 from rfl, pk_mul]
  unfold mo_enter
  simp only [h, md_lx, if_pos (nI_in hk (by omega)), nI_clamp (show k < 2 ^ 31 by omega), if_pos (nI_in (show a < 100 by omega) (by omega)), nI_clamp (show a < 2 ^ 31 by omega), e300, if_pos (nI_in (show 300 * k < 2400 by omega) (by omega)), nI_clamp (show 300 * k < 2 ^ 31 by omega)]
  refine ⟨_, rfl, ?_, ?_, ?_, ?_, ⟨?_, by simp, ?_⟩, ?_, ?_⟩
  · simp only [md_w1]
    rw [md_p1, if_pos rfl, nI_1]
  · rw [md_w_k (by decide), md_w_k (by decide), md_w_k (by decide), md_w_k (by decide), md_w_s]
  · rw [md_w_k (by decide), md_w_k (by decide), md_w_k (by decide), md_w_s]
  · rw [md_w_k (by decide), md_w_k (by decide), md_w_s, md_w_k (by decide), md_w_k (by decide)]
    exact hl
  · rw [md_w_k (by decide), md_w_s]; rfl
  · intro i hi
    simp at hi
    subst hi
    rw [Nat.add_zero, md_w_s]; rfl
  · exact (((((low.rf.p).w (Or.inl ⟨by decide, by decide, Nat.le_refl _⟩)).w (Or.inl ⟨by decide, by decide, Nat.le_refl _⟩)).w (Or.inl ⟨by decide, by decide, Nat.le_refl _⟩)).w (Or.inl ⟨by decide, by decide, Nat.le_refl _⟩)).w (Or.inr (Nat.le_refl _))
  · exact (((((rF.rf.p (by decide)).w (by decide)).w (by decide)).w (by decide)).w (by decide)).w (by decide)
def lvV (o : Int32) (row : List Nat) : Option vQ := if o = 0 then tru (!row.isEmpty) else if o = 1 then row.head?.map .inl else some (.inr (3, nI row.length, []))
theorem e_leave {t : List Nat} {D : dS} {tq : List Nat} {Q : cQ} {S : md_S} {k : Nat} {o : Int32} {row : List Nat} {vs : stk} {N : Nat} (ho : o = 0 ∨ o = 1 ∨ o = 2) (hS : rSt t D tq Q S) (h : tp t tq D k vs S) (hk : k < 8) (hv : vs.length < 100) (h63 : S.2 63 k = o + 1) (hr : rRow k row S) (hd : ∀ x, x ∈ row → x < D.1) : ∃ S', mo_leave N (nI k) S = some S' ∧ S'.1 59 = nI k ∧ rVs t tq D (lvV o row :: vs) S' ∧ rF [59, 76, 77, 78, 79] S S' := by
  obtain ⟨S7, hS7⟩ : ∃ S7, S7 = md_p S 59 (nI k) := ⟨_, rfl⟩
  have f7 : rF [59] S S7 := by rw [hS7]; exact rF.rf.p (by decide)
  have g59 : S7.1 59 = nI k := by rw [hS7, md_p1, if_pos rfl]
  have a2 : S7.2 = S.2 := by rw [hS7]; rfl
  have hS' := hS.f f7 (fun q z => by simp at z; omega)
  have hv7 := h.2.f f7 (fun q z => by simp at z; omega)
  have e300 : (300 : Int32) * nI k = nI (300 * k) := by rw [show (300 : Int32) = nI 300 from rfl, pk_mul]
  unfold mo_leave mo_leave_j95
  rw [h.1, nI_pred]
  simp only [md_lx, ← hS7, if_pos (nI_in hk (by omega)), nI_clamp (show k < 2 ^ 31 by omega), md_ci, e300, if_pos (nI_in (show 300 * k < 2400 by omega) (by omega)), nI_clamp (show 300 * k < 2 ^ 31 by omega)]
  rw [a2, h63, hr.1]
  have fin : ∀ {q a b : Int32}, rVl t tq D (lvV o row) q a b → ∃ S', mo_value q a b S7 = some S' ∧ S'.1 59 = nI k ∧ rVs t tq D (lvV o row :: vs) S' ∧ rF [59, 76, 77, 78, 79] S S' := fun {q a b} hh => by
    obtain ⟨S', p1, p2, p3⟩ := e_value hv7 hv hh
    exact ⟨S', p1, by rw [(p3 59 (by decide)).1]; exact g59, p2, f7.tr p3 (fun _ z => by simp at z ⊢; omega) (fun _ z => by simp at z ⊢; omega)⟩
  rcases ho with e | e | e
  · subst e
    rw [if_neg (by decide), if_pos (by decide)]
    cases row with
    | nil =>
      rw [if_pos (show nI ([] : List Nat).length ≤ 0 from by decide)]
      exact fin (rVl_tru (b := false))
    | cons x r =>
      rw [if_neg (show ¬ nI (x :: r).length ≤ 0 from nI_nle (by simp) (by have := hr.2.1; simp at this ⊢; omega))]
      exact fin (rVl_tru (b := true))
  · subst e
    rw [if_neg (by decide), if_neg (by decide), if_pos (by decide)]
    cases row with
    | nil =>
      rw [if_pos (show nI ([] : List Nat).length = 0 from rfl)]
      exact fin rfl
    | cons x r =>
      have hl := hr.2.1
      rw [if_neg (show ¬ nI (x :: r).length = 0 from fun z => by
        have := (nI_eq (a := (x :: r).length) (b := 0) (by omega) (by omega)).mp z
        simp at this)]
      have e0 := hr.2.2 0 (by simp)
      rw [Nat.add_zero] at e0
      rw [e0, show lk (x :: r) 0 = x from rfl]
      obtain ⟨S', p1, p2, p3⟩ := e_nodeValue hS' (hd x (by simp)) hv7 hv
      exact ⟨S', p1, by rw [(p3 59 (by decide)).1]; exact g59, p2, f7.tr p3 (fun _ z => by simp at z ⊢; omega) (fun _ z => by simp at z ⊢; omega)⟩
  · subst e
    rw [if_neg (by decide), if_neg (by decide), if_neg (by decide), if_pos (by decide)]
    exact fin ⟨rfl, fun _ => rfl, fun z => absurd z (by decide), by decide⟩
/-- the step that leaves a path -/
theorem r_leave {t : List Nat} {D : dS} {tq : List Nat} {Q : cQ} {k : Nat} {o : Int32} {row : List Nat} {vs : stk} (ho : o = 0 ∨ o = 1 ∨ o = 2) (hk : k < 7) (hv : vs.length < 100) : RN 1 t D tq Q (fun S => tp t tq D (k + 1) vs S ∧ S.2 62 (k + 1) = 0 ∧ S.2 64 (k + 1) = -1 ∧ S.2 63 (k + 1) = o + 1 ∧ rRow (k + 1) row S ∧ ∀ x, x ∈ row → x < D.1) (some (lvV o row, 0)) (fun v S S' => tp t tq D k (v :: vs) S' ∧ low (k + 1) S S') := by
  refine RN.on0 (fun S h => h.1.n0 (by omega)) fun N hN S hS h60 h => ?_
  obtain ⟨h1, h2, h3, h4, h5, h6⟩ := h
  obtain ⟨S', a1, a2, a3, a4⟩ := e_leave (N := N) ho hS h1 (by omega) hv h4 h5 h6
  refine ⟨S', ?_, a4.mn (fun q z => by simp at z; exact KM_in (by omega) (by omega)), (a4 60 (by decide)).1, (a4 61 (by decide)).1, ⟨a2, a3⟩, (lx.fr (J := []) a4 (fun q z => by simp at z; omega)).1⟩
  unfold mo_step
  simp only [h1.1, nI_pred, if_pos (nI_in (show k + 1 < 8 by omega) (by omega)), nI_clamp (show k + 1 < 2 ^ 31 by omega), h2, h3, if_true, a1, md_cs]
def OPp (t tq : List Nat) (D : dS) (f ch : Nat) (vs : stk) (ol : List Nat) (st : stk) (S : md_S) : Prop := tp t tq D f (st ++ vs) S ∧ S.2 62 f = 4 ∧ S.2 70 f = nI ch ∧ S.2 71 f = oI ol.head?
def OPr (t tq : List Nat) (D : dS) (f : Nat) (vs : stk) (rest : List Nat) (st : stk) (S S' : md_S) : Prop := tp t tq D f (st ++ vs) S' ∧ S'.2 71 f = oI rest.head? ∧ lx [71] f S S'
