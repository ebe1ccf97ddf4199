/-! What a document says: the nodes by their numbers, as the text is read. -/
abbrev nR : Type := Int32 × Int32 × List Nat × List Nat × Option Nat × Nat × Nat × Option (Nat × Nat) × List Nat
abbrev nkd (r : nR) : Int32 := r.1
abbrev nsz (r : nR) : Int32 := r.2.1
abbrev ntx (r : nR) : List Nat := r.2.2.1
abbrev nnm (r : nR) : List Nat := r.2.2.2.1
abbrev nou (r : nR) : Option Nat := r.2.2.2.2.1
abbrev npl (r : nR) : Nat := r.2.2.2.2.2.1
abbrev nbe (r : nR) : Nat := r.2.2.2.2.2.2.1
abbrev nfi (r : nR) : Option (Nat × Nat) := r.2.2.2.2.2.2.2.1
abbrev nki (r : nR) : List Nat := r.2.2.2.2.2.2.2.2
abbrev dS : Type := Nat × (Nat → nR)
def dU (D : dS) (k : Nat) (r : nR) : dS := (D.1, fun j => if j = k then r else D.2 j)
def bump (r : nR) (n : Nat) : nR := (nkd r, nsz r + 1, ntx r, nnm r, nou r, npl r, nbe r, nfi r, nki r ++ [n])
def nwR (nm : List Nat) (ou : Option Nat) (pl be : Nat) : nR := (0, 0, [], nm, ou, pl, be, none, [])
def addD (D : dS) (ou : Option Nat) (nm : List Nat) (be : Nat) : dS := match ou with
  | none => (D.1 + 1, (dU D D.1 (nwR nm none 0 be)).2)
  | some o => (D.1 + 1, (dU (dU D o (bump (D.2 o) D.1)) D.1 (nwR nm (some o) (nki (D.2 o)).length be)).2)
def setK (D : dS) (n : Nat) (kd : Int32) : dS := dU D n (kd, (D.2 n).2)
def setP (D : dS) (n : Nat) (kd sz : Int32) (tx : List Nat) : dS := dU D n (kd, sz, tx, (D.2 n).2.2.2)
def setF (D : dS) (n e : Nat) : dS := dU D n (nkd (D.2 n), nsz (D.2 n), ntx (D.2 n), nnm (D.2 n), nou (D.2 n), npl (D.2 n), nbe (D.2 n), some (e, D.1), nki (D.2 n))
def sl (t : List Nat) (a n : Nat) : List Nat := (t.drop a).take n
def kidN (D : dS) (n : Nat) (nm : List Nat) : Option Nat := (nki (D.2 n)).find? (fun j => nnm (D.2 j) == nm)
/-- a member's name and the colon -/
def rdMem (t : List Nat) (D : dS) (n p : Nat) : (List Nat × Nat) ⊕ Nat := match rdS t 34 92 (bl t p) with
  | .inr w => .inr w
  | .inl q => if kidN D n (sl t (bl t p + 1) (q - (bl t p + 1))) ≠ none then .inr (bl t p) else if lk t (bl t (q + 1)) = 58 then .inl (sl t (bl t p + 1) (q - (bl t p + 1)), bl t (q + 1) + 1) else .inr (bl t (q + 1))
def pH (t : List Nat) (D : dS) (n : Nat) (ob : Bool) (p : Nat) : (List Nat × Nat) ⊕ Nat := if ob = true then rdMem t D n p else .inl ([], p)
/-- what lies between the brackets -/
def pE (t : List Nat) (rd : dS → Nat → List Nat → (dS × Nat) ⊕ Nat) (ob : Bool) (n : Nat) : Nat → dS → Nat → (dS × Nat) ⊕ Nat
  | 0, _, p => .inr p
  | k + 1, D, p => match pH t D n ob p with
    | .inr w => .inr w
    | .inl (nm, p1) => match rd D p1 nm with
      | .inr w => .inr w
      | .inl (D', p') => if k ≠ 0 ∧ lk t p' = 44 then pE t rd ob n k D' (p' + 1) else if lk t p' = (if ob = true then 125 else 93) then .inl (D', p' + 1) else .inr p'
def pF (t : List Nat) (n : Nat) (r : (dS × Nat) ⊕ Nat) : (dS × Nat) ⊕ Nat := match r with
  | .inr w => .inr w
  | .inl (D, p) => .inl (setF D n p, bl t p)
def pB (t : List Nat) (rd : dS → Nat → List Nat → (dS × Nat) ⊕ Nat) (ob : Bool) (n : Nat) (D : dS) (p : Nat) : (dS × Nat) ⊕ Nat :=
  if lk t (bl t (p + 1)) = (if ob = true then 125 else 93) then .inl (setK D n (if ob = true then 6 else 5), bl t (p + 1) + 1)
  else pE t rd ob n 40 (setK D n (if ob = true then 6 else 5)) (bl t (p + 1))
def pL (t : List Nat) (n : Nat) (D : dS) (p : Nat) : (dS × Nat) ⊕ Nat := match rdP t 34 92 p with
  | .inr w => .inr w
  | .inl (kd, sz, tx, p') => .inl (setP D n kd sz tx, p')
/-- a value, lv boxes may lie round what it holds -/
def pV (t : List Nat) : Nat → dS → Nat → Option Nat → List Nat → (dS × Nat) ⊕ Nat
  | 0, D, p, ou, nm => if 40 ≤ D.1 then .inr (bl t p) else if lk t (bl t p) = 91 ∨ lk t (bl t p) = 123 then .inr (bl t p) else pF t D.1 (pL t D.1 (addD D ou nm (bl t p)) (bl t p))
  | lv + 1, D, p, ou, nm => if 40 ≤ D.1 then .inr (bl t p) else if lk t (bl t p) = 91 ∨ lk t (bl t p) = 123 then pF t D.1 (pB t (fun D' p' nm' => pV t lv D' p' (some D.1) nm') (lk t (bl t p) == 123) D.1 (addD D ou nm (bl t p)) (bl t p)) else pF t D.1 (pL t D.1 (addD D ou nm (bl t p)) (bl t p))
def nR0 : nR := (0, 0, [], [], none, 0, 0, none, [])
def pD (t : List Nat) : dS ⊕ Nat := match pV t 6 (0, fun _ => nR0) 0 none [] with
  | .inr w => .inr w
  | .inl (D, p) => if p < t.length then .inr p else .inl D
/-! how the reference keeps it -/
def oI (o : Option Nat) : Int32 := match o with
  | none => -1
  | some n => nI n
def rNm (t : List Nat) (A N : Int32) (nm : List Nat) : Prop := (N = 0 ∧ nm = []) ∨ ∃ a n, A = nI a ∧ N = nI n ∧ nm = sl t a n ∧ n ≤ 8 ∧ a + n ≤ t.length
def rN (t : List Nat) (S : md_S) (i : Nat) (r : nR) : Prop := S.2 12 i = nkd r ∧ S.2 13 i = oI (nou r) ∧ S.2 15 i = nI (nbe r) ∧ (nkd r = 3 ∨ nkd r = 4 → S.2 17 i = nsz r) ∧ rNm t (S.2 18 i) (S.2 19 i) (nnm r) ∧ ∀ e a, nfi r = some (e, a) → S.2 16 i = nI e ∧ S.2 14 i = nI a - 1
def rP (S : md_S) : List Nat → Prop
  | [] => True
  | x :: r => S.2 20 r.length = nI x ∧ rP S r
def rD (t : List Nat) (D : dS) (st : List Nat) (S : md_S) : Prop := S.1 10 = nI D.1 ∧ D.1 ≤ 40 ∧ (∀ i, i < D.1 → rN t S i (D.2 i)) ∧ S.1 21 = nI st.length ∧ st.length ≤ 6 ∧ rP S st ∧ ∀ x, x ∈ st → x < D.1 ∧ (nkd (D.2 x) = 5 ∨ nkd (D.2 x) = 6)
def KD : List Nat := [6, 7, 10, 12, 13, 14, 15, 16, 17, 18, 19, 20, 21, 22, 23, 86, 87]
theorem md_wn {S : md_S} {k j i k' : Nat} {v : Int32} (h : i ≠ j) : (md_w S k j v).2 k' i = S.2 k' i := by
  rw [md_w2]
  split
  next e => rw [upd_n h, e]
  next => rfl
theorem rN.f {t : List Nat} {S S' : md_S} {i : Nat} {r : nR} (h : rN t S i r) (e : ∀ k, 12 ≤ k → k ≤ 19 → S'.2 k i = S.2 k i) : rN t S' i r := by
  unfold rN
  rw [e 12 (by omega) (by omega), e 13 (by omega) (by omega), e 14 (by omega) (by omega), e 15 (by omega) (by omega), e 16 (by omega) (by omega), e 17 (by omega) (by omega), e 18 (by omega) (by omega), e 19 (by omega) (by omega)]
  exact h
theorem rP.f {S S' : md_S} (e : S'.2 20 = S.2 20) : ∀ {st : List Nat}, rP S st → rP S' st
  | [], _ => trivial
  | x :: r, h => ⟨by rw [e]; exact h.1, rP.f e h.2⟩
theorem rP.u {S S' : md_S} {j : Nat} (e : ∀ i, i < j → S'.2 20 i = S.2 20 i) : ∀ {st : List Nat}, st.length ≤ j → rP S st → rP S' st
  | [], _, _ => trivial
  | x :: r, hl, h => ⟨by rw [e r.length (by simp at hl; omega)]; exact h.1, rP.u e (by simp at hl; omega) h.2⟩
theorem rD.f {t : List Nat} {D : dS} {st : List Nat} {S S' : md_S} {K : List Nat} (h : rD t D st S) (f : rF K S S') (h10 : 10 ∉ K) (h12 : ∀ k, 12 ≤ k → k ≤ 21 → k ∉ K) : rD t D st S' := by
  obtain ⟨a, b, c, d, e, g, i⟩ := h
  refine ⟨by rw [(f 10 h10).1]; exact a, b, fun j hj => (c j hj).f fun k h1 h2 => by rw [(f k (h12 k h1 (by omega))).2], by rw [(f 21 (h12 21 (by omega) (by omega))).1]; exact d, e, rP.f (f 20 (h12 20 (by omega) (by omega))).2 g, i⟩
theorem e_top {t : List Nat} {D : dS} {st : List Nat} {S : md_S} (h : rD t D st S) : mo_top S = some (oI st.head?, S) := by
  obtain ⟨a, b, c, d, e, g, i⟩ := h
  unfold mo_top mo_top_j22
  match st, d, e, g with
  | [], d, e, g => rw [if_pos (show S.1 21 = 0 from d)]; rfl
  | x :: r, d, e, g =>
    have hl : r.length < 6 := by simp at e; omega
    have d' : S.1 21 = nI (r.length + 1) := d
    rw [d', if_neg (nI_ne0 (by omega) (by omega)), nI_pred, if_pos (nI_in (by omega) (by omega)), nI_clamp (by omega), g.1]
    rfl
theorem dU_s {D : dS} {k : Nat} {r : nR} : (dU D k r).2 k = r := if_pos rfl
theorem dU_n {D : dS} {k j : Nat} {r : nR} (h : j ≠ k) : (dU D k r).2 j = D.2 j := if_neg h
theorem addD1 {D : dS} {ou : Option Nat} {nm : List Nat} {be : Nat} : (addD D ou nm be).1 = D.1 + 1 := by cases ou <;> rfl
theorem addD_s {D : dS} {ou : Option Nat} {nm : List Nat} {be : Nat} : ∃ pl, (addD D ou nm be).2 D.1 = nwR nm ou pl be := by
  cases ou with
  | none => exact ⟨0, dU_s⟩
  | some o => exact ⟨_, dU_s⟩
theorem addD_n {D : dS} {ou : Option Nat} {nm : List Nat} {be j : Nat} (h : j ≠ D.1) : (addD D ou nm be).2 j = if ou = some j then bump (D.2 j) D.1 else D.2 j := by
  cases ou with
  | none => exact dU_n h
  | some o =>
    refine (dU_n h).trans ?_
    by_cases e : j = o
    · subst e; rw [dU_s, if_pos rfl]
    · rw [dU_n e, if_neg (fun z => e (Option.some.inj z).symm)]
theorem rN.b {t : List Nat} {S : md_S} {i n : Nat} {r : nR} (h : rN t S i r) (hk : nkd r = 5 ∨ nkd r = 6) : rN t S i (bump r n) := by
  obtain ⟨a, b, c, d, e, f⟩ := h
  refine ⟨a, b, c, fun z => ?_, e, f⟩
  have z' : nkd r = 3 ∨ nkd r = 4 := z
  rcases hk with k | k <;> rw [k] at z' <;> exact absurd z' (by decide)
/-- reads a leaf's front: the fields of a new node -/
theorem e_front {t : List Nat} {D : dS} {st : List Nat} {S : md_S} {p : Nat} {nm : List Nat} (hT : rT t p S) (hD : rD t D st S) (hn : rNm t (S.1 22) (S.1 23) nm) (h40 : D.1 < 40) {kd : Int32} {S' : md_S}
    (hS : S' = md_w (md_p (md_p (md_w (md_w (md_w (md_w S 13 D.1 (oI st.head?)) 15 D.1 (nI p)) 18 D.1 (S.1 22)) 19 D.1 (S.1 23)) 22 (-1)) 23 0) 17 D.1 0) :
    rT t p S' ∧ S'.1 10 = nI D.1 ∧ S'.1 21 = nI st.length ∧ rP S' st ∧ rNm t (S'.1 22) (S'.1 23) [] ∧ (∀ i, i < D.1 → rN t S' i (D.2 i)) ∧ S'.2 13 D.1 = oI st.head? ∧ S'.2 15 D.1 = nI p ∧ S'.2 17 D.1 = 0 ∧ rNm t (S'.2 18 D.1) (S'.2 19 D.1) nm ∧ rF [13, 15, 17, 18, 19, 22, 23] S S' := by
  have f : rF [13, 15, 17, 18, 19, 22, 23] S S' := by
    rw [hS]
    exact ((((((rF.rf.w (by decide)).w (by decide)).w (by decide)).w (by decide)).p (by decide)).p (by decide)).w (by decide)
  obtain ⟨a, b, c, d, e, g, i⟩ := hD
  refine ⟨hT.f f (by decide) (by decide) (by decide) (by decide), by rw [(f 10 (by decide)).1]; exact a, by rw [(f 21 (by decide)).1]; exact d, rP.f (f 20 (by decide)).2 g, ?_, fun j hj => ?_, ?_, ?_, ?_, ?_, f⟩
  · exact Or.inl ⟨by rw [hS]; simp [md_p1, md_w1], rfl⟩
  · refine (c j hj).f fun k h1 h2 => ?_
    rw [hS]
    have hne : j ≠ D.1 := by omega
    simp only [md_wn hne, md_p2]
  · rw [hS]; simp [md_w2, md_p2, upd]
  · rw [hS]; simp [md_w2, md_p2, upd]
  · rw [hS]; simp [md_w2, md_p2, upd]
  · rw [hS]; simp only [md_w2, md_p2]
    simpa [upd] using hn
