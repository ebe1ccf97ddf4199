/-! what the tables say -/
def tru (b : Bool) : Option vQ := some (.inr (if b = true then 2 else 1, 0, []))
def isT (D : dS) (v : Option vQ) : Bool := match v with
  | some x => vkd D x == 2
  | none => false
theorem isT_tru (D : dS) (b : Bool) : isT D (tru b) = b := by cases b <;> rfl
def lenO (D : dS) (v : Option vQ) : Option vQ := match v with
  | none => none
  | some x => if vkd D x < 4 then none else some (.inr (3, vsz D x, []))
abbrev stk : Type := List (Option vQ)
def opE (tq : List Nat) (rec : Nat → dPth) (o : Int32 × Int32 × Int32) (D : dS) (n : Nat) (st : stk) : eR stk :=
  if o.1 = 0 then eB (rec o.2.1.toNatClampNeg D n) fun r => some (tru (!r.isEmpty) :: st, 0)
  else if o.1 = 1 then eB (rec o.2.1.toNatClampNeg D n) fun r => some (r.head?.map .inl :: st, 0)
  else if o.1 = 2 then eB (rec o.2.1.toNatClampNeg D n) fun r => some (some (.inr (3, nI r.length, [])) :: st, 0)
  else if o.1 = 3 then some (lenO D (st.headD none) :: st.drop 1, 0)
  else if o.1 = 4 then some (some (.inr (3, o.2.1, [])) :: st, 0)
  else if o.1 = 5 then some (some (.inr (4, o.2.2, sl tq o.2.1.toNatClampNeg o.2.2.toNatClampNeg)) :: st, 0)
  else if o.1 = 6 then some (some (.inr (o.2.1, 0, [])) :: st, 0)
  else if o.1 = 7 then some (tru (cmpV D o.2.1.toNatClampNeg ((st.drop 1).headD none) (st.headD none)) :: st.drop 2, 0)
  else if o.1 = 8 then some (tru (!isT D (st.headD none)) :: st.drop 1, 0)
  else if o.1 = 9 then some (tru (isT D ((st.drop 1).headD none) && isT D (st.headD none)) :: st.drop 2, 0)
  else some (tru (isT D ((st.drop 1).headD none) || isT D (st.headD none)) :: st.drop 2, 0)
def opsE (tq : List Nat) (rec : Nat → dPth) (os : Nat → Int32 × Int32 × Int32) (D : dS) (n : Nat) : List Nat → stk → eR stk
  | [], st => some (st, 0)
  | k :: r, st => eB (opE tq rec (os k) D n st) fun st' => opsE tq rec os D n r st'
def cndE (tq : List Nat) (rec : Nat → dPth) (os : Nat → Int32 × Int32 × Int32) (ol : List Nat) : dCnd := fun D n => eB (opsE tq rec os D n ol []) fun st => some (isT D (st.headD none), 0)
def selE (tq : List Nat) (rec : Nat → dPth) (Q : cQ) (k : Int32 × Int32 × Int32 × Int32 × Int32) : dSel :=
  if k.1 = 0 then sNamed (sl tq k.2.1.toNatClampNeg k.2.2.1.toNatClampNeg)
  else if k.1 = 1 then sAll
  else if k.1 = 2 then sPlace k.2.1
  else if k.1 = 3 then sStr (decide (k.2.2.2.2 = 1 ∨ k.2.2.2.2 = 3)) k.2.1 (decide (k.2.2.2.2 = 2 ∨ k.2.2.2.2 = 3)) k.2.2.1 k.2.2.2.1
  else sCond (cndE tq rec (qo Q).2 ((qc Q).2 k.2.1.toNatClampNeg))
def segE (tq : List Nat) (rec : Nat → dPth) (Q : cQ) (s : Nat) : Bool × List dSel := (((qg Q).2.1 s).1, ((qg Q).2.2 s).map fun k => selE tq rec Q ((qk Q).2 k))
def evP (tq : List Nat) (Q : cQ) : Nat → Nat → dPth
  | 0, _ => fun _ _ => none
  | f + 1, a => pthD ((qp Q).2.1 a).2 (((qp Q).2.2 a).map fun s => segE tq (evP tq Q f) Q s)
/-! tables that agree on what lies between two of them -/
def agr (Q0 Q1 Q2 : cQ) : Prop :=
  (∀ a, (qp Q0).1 ≤ a → a < (qp Q1).1 → (qp Q2).2.1 a = (qp Q1).2.1 a ∧ (qp Q2).2.2 a = (qp Q1).2.2 a) ∧
  (∀ a, (qg Q0).1 ≤ a → a < (qg Q1).1 → (qg Q2).2.1 a = (qg Q1).2.1 a ∧ (qg Q2).2.2 a = (qg Q1).2.2 a) ∧
  (∀ a, (qk Q0).1 ≤ a → a < (qk Q1).1 → (qk Q2).2 a = (qk Q1).2 a) ∧
  (∀ a, (qc Q0).1 ≤ a → a < (qc Q1).1 → (qc Q2).2 a = (qc Q1).2 a) ∧
  (∀ a, (qo Q0).1 ≤ a → a < (qo Q1).1 → (qo Q2).2 a = (qo Q1).2 a)
def leQ (Q0 Q1 : cQ) : Prop := (qp Q0).1 ≤ (qp Q1).1 ∧ (qg Q0).1 ≤ (qg Q1).1 ∧ (qk Q0).1 ≤ (qk Q1).1 ∧ (qc Q0).1 ≤ (qc Q1).1 ∧ (qo Q0).1 ≤ (qo Q1).1
theorem leQ.rf {Q : cQ} : leQ Q Q := ⟨Nat.le_refl _, Nat.le_refl _, Nat.le_refl _, Nat.le_refl _, Nat.le_refl _⟩
theorem leQ.tr {A B C : cQ} (h : leQ A B) (k : leQ B C) : leQ A C := ⟨Nat.le_trans h.1 k.1, Nat.le_trans h.2.1 k.2.1, Nat.le_trans h.2.2.1 k.2.2.1, Nat.le_trans h.2.2.2.1 k.2.2.2.1, Nat.le_trans h.2.2.2.2 k.2.2.2.2⟩
/-- an outer stretch's agreement is an inner one's, where the outer end keeps what the inner end had -/
theorem agr.sub {A B C E X : cQ} (h : agr A E X) (h1 : leQ A B) (h2 : leQ C E) (h3 : agr B C E) : agr B C X := by
  obtain ⟨a1, a2, a3, a4, a5⟩ := h
  obtain ⟨b1, b2, b3, b4, b5⟩ := h1
  obtain ⟨c1, c2, c3, c4, c5⟩ := h2
  obtain ⟨d1, d2, d3, d4, d5⟩ := h3
  refine ⟨fun a x y => ?_, fun a x y => ?_, fun a x y => ?_, fun a x y => ?_, fun a x y => ?_⟩
  · have := a1 a (by omega) (by omega); have e := d1 a x y
    exact ⟨this.1.trans e.1, this.2.trans e.2⟩
  · have := a2 a (by omega) (by omega); have e := d2 a x y
    exact ⟨this.1.trans e.1, this.2.trans e.2⟩
  · exact (a3 a (by omega) (by omega)).trans (d3 a x y)
  · exact (a4 a (by omega) (by omega)).trans (d4 a x y)
  · exact (a5 a (by omega) (by omega)).trans (d5 a x y)
theorem agr.rf {A B : cQ} : agr A B B := ⟨fun _ _ _ => ⟨rfl, rfl⟩, fun _ _ _ => ⟨rfl, rfl⟩, fun _ _ _ => rfl, fun _ _ _ => rfl, fun _ _ _ => rfl⟩
theorem agr.nil {A X : cQ} : agr A A X := ⟨fun _ _ _ => absurd ‹_› (by omega), fun _ _ _ => absurd ‹_› (by omega), fun _ _ _ => absurd ‹_› (by omega), fun _ _ _ => absurd ‹_› (by omega), fun _ _ _ => absurd ‹_› (by omega)⟩
/-! the loop that reads a query -/
abbrev qL (N n : Nat) (S : md_S) : Option (Int32 × md_S) := mo_readQuery_l63 N n S
theorem qL_ill {N n w : Nat} {S : md_S} (hN : 161 ≤ N) (h : rI w S) (hw : w < 1000) : qL N (n + 1) S = some (0, S) := by
  have e147 : mo_readQuery_j147 N S = some (0, S) := by
    unfold mo_readQuery_j147
    rw [if_pos (show md_in 0 100 by decide)]
    obtain ⟨M, rfl⟩ : ∃ m, N = m + 1 := ⟨N - 1, by omega⟩
    rw [mo_readQuery_l156]
    unfold mo_readQuery_j181
    split
    · rfl
    · rw [e_ill h hw]
      simp only [md_bs, if_true]
  have e121 : mo_readQuery_j121 N S = some (0, S) := by
    unfold mo_readQuery_j121
    rw [e_ill h hw]
    simp only [md_bs, if_true]
    exact e147
  rw [qL, mo_readQuery_l63]
  split
  · exact e121
  · rw [e_ill h hw]
    simp only [md_bs, if_true]
    exact e121
/-- one thing is taken off the pile -/
theorem qL_st {N : Nat} {S : md_S} {x : Int32 × Int32 × Int32} {td : List (Int32 × Int32 × Int32)} (h7 : S.1 7 = -1) (h : rPl (x :: td) S) : ∀ n, qL N (n + 1) S = md_c (mo_readPart N x.1 x.2.1 x.2.2 (md_p S 55 (nI td.length))) fun S' => qL N n S' := fun n => by
  obtain ⟨h1, h2⟩ := e_pop h
  have hl : td.length < 400 := by have := h.2.1; simp at this; omega
  have h55 := h.1
  rw [qL, mo_readQuery_l63, if_neg (show ¬ S.1 55 ≤ 0 by rw [h55]; exact nI_nle (by simp) (by simp; omega)), e_good h7]
  simp only [md_bs, md_lx]
  rw [if_neg (by decide), h2]
  have e55 : (md_p S 55 (nI td.length)).1 55 = nI td.length := by rw [md_p1, if_pos rfl]
  simp only [e55, if_pos (nI_in hl (by omega)), nI_clamp (show td.length < 2 ^ 31 by omega), md_p2, h.2.2.1.1, h.2.2.1.2.1, h.2.2.1.2.2]
/-- the state of the reader -/
def rR (t : List Nat) (p : Nat) (Q : cQ) (td : List (Int32 × Int32 × Int32)) (ne : Nat) (S : md_S) : Prop := rT t p S ∧ rC Q S ∧ rPl td S ∧ S.1 31 = nI ne
def KR : List Nat := [6, 7, 26, 27, 28, 29, 30, 31, 33, 34, 35, 36, 37, 38, 39, 40, 41, 42, 43, 44, 45, 46, 47, 48, 49, 50, 51, 52, 53, 54, 55, 56, 57, 58, 86, 87]
theorem rR.pop {t : List Nat} {p : Nat} {Q : cQ} {x : Int32 × Int32 × Int32} {td : List (Int32 × Int32 × Int32)} {ne : Nat} {S : md_S} (h : rR t p Q (x :: td) ne S) : rR t p Q td ne (md_p S 55 (nI td.length)) := by
  have f : rF [55] S (md_p S 55 (nI td.length)) := rF.rf.p (by decide)
  exact ⟨h.1.f f (by decide) (by decide) (by decide) (by decide), h.2.1.f f (fun k h1 h2 _ _ z => by simp at z; omega), (e_pop h.2.2.1).1, by rw [(f 31 (by decide)).1]; exact h.2.2.2⟩
theorem rR.push {t : List Nat} {p : Nat} {Q : cQ} {td : List (Int32 × Int32 × Int32)} {ne : Nat} {S : md_S} {x y z : Int32} (h : rR t p Q td ne S) (hl : td.length < 400) : ∃ S', mo_push x y z S = some S' ∧ rR t p Q ((x, y, z) :: td) ne S' ∧ rF [55, 56, 57, 58] S S' := by
  obtain ⟨S', a, b, f⟩ := e_push (x := x) (y := y) (z := z) h.2.2.1 hl
  exact ⟨S', a, ⟨h.1.f f (by decide) (by decide) (by decide) (by decide), h.2.1.f f (fun k h1 h2 _ _ z => by simp at z; omega), b, by rw [(f 31 (by decide)).1]; exact h.2.2.2⟩, f⟩
theorem rR.t6 {t : List Nat} {p p' : Nat} {Q : cQ} {td : List (Int32 × Int32 × Int32)} {ne : Nat} {S S' : md_S} {K : List Nat} (h : rR t p Q td ne S) (hT : rT t p' S') (f : rF K S S') (hk : ∀ k, k ∈ K → k = 6 ∨ k = 7 ∨ k = 86 ∨ k = 87) : rR t p' Q td ne S' :=
  ⟨hT, h.2.1.f f (fun k h1 h2 _ _ z => by have := hk k z; omega), h.2.2.1.f f (fun z => by have := hk _ z; omega) (fun z => by have := hk _ z; omega) (fun z => by have := hk _ z; omega) (fun z => by have := hk _ z; omega), by rw [(f 31 (fun z => by have := hk _ z; omega)).1]; exact h.2.2.2⟩
