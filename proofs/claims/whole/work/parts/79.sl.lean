/-! values that are compared -/
/-- where a string's letters lie: in the document, or in the query behind 1000 -/
def sDe (t tq : List Nat) (x n : Int32) (tx : List Nat) : Prop := n = nI tx.length ∧ tx.length ≤ 8 ∧ ((∃ p, x = nI p ∧ p + tx.length ≤ t.length ∧ tx = sl t p tx.length) ∨ ∃ p, x = nI (1000 + p) ∧ p + tx.length ≤ tq.length ∧ tx = sl tq p tx.length)
theorem e_letter {t : List Nat} {D : dS} {tq : List Nat} {Q : cQ} {S : md_S} {x n : Int32} {tx : List Nat} {i : Nat} (hS : rSt t D tq Q S) (h : sDe t tq x n tx) (hi : i < tx.length) : mo_letterOf x (nI i) S = some (nI (lk tx i), S) ∧ lk tx i < 128 := by
  obtain ⟨h1, h8, h2⟩ := h
  have ht := hS.1.2.2.2.2
  have htq := hS.2.2.2.2
  have h160 := ht.1
  have h161 := htq.1
  unfold mo_letterOf mo_letterOf_j30
  rcases h2 with ⟨p, rfl, hp, e⟩ | ⟨p, rfl, hp, e⟩
  · have el : lk tx i = lk t (p + i) := by rw [e, sl_lk hi]
    have := lk_126 ht (p + i)
    rw [if_neg (show ¬ (1000 : Int32) ≤ nI p from nI_ge (b := 1000) (by omega) (by omega)), nI_add, if_pos (nI_in (by omega) (by omega)), nI_clamp (by omega), hS.1.2.2.2.1 (p + i) (by omega), el]
    exact ⟨rfl, by omega⟩
  · have el : lk tx i = lk tq (p + i) := by rw [e, sl_lk hi]
    have := lk_126 htq (p + i)
    rw [if_pos (show (1000 : Int32) ≤ nI (1000 + p) from nI_le (a := 1000) (by omega) (by omega)), show nI (1000 + p) - 1000 = nI p from (pk_sub (a := 1000 + p) (b := 1000) (by omega)).trans (by rw [Nat.add_sub_cancel_left]), nI_add, if_pos (nI_in (by omega) (by omega)), nI_clamp (by omega), hS.2.2.2.1 (p + i) (by omega), el]
    exact ⟨rfl, by omega⟩
theorem lexL_drop : ∀ {a b : List Nat} {k : Nat}, (∀ j, j < k → lk a j = lk b j) → k ≤ a.length → k ≤ b.length → lexL a b = lexL (a.drop k) (b.drop k)
  | a, b, 0, _, _, _ => rfl
  | [], b, k + 1, _, h, _ => absurd h (by simp)
  | x :: a, [], k + 1, _, _, h => absurd h (by simp)
  | x :: a, y :: b, k + 1, e, h1, h2 => by
    have e0 : x = y := e 0 (by omega)
    subst e0
    rw [lexL, if_pos rfl]
    exact lexL_drop (fun j hj => e (j + 1) (by omega)) (by simp at h1; omega) (by simp at h2; omega)
theorem sub_lt0 {a b : Nat} (ha : a < 1000) (hb : b < 1000) : (nI a - nI b < 0) = (a < b) := by
  have h := pk_sub_toInt (a := a) (b := b) (by omega) (by omega)
  rw [Int32.lt_iff_toInt_lt, h, show (0 : Int32).toInt = 0 from rfl]
  exact propext ⟨fun z => by omega, fun z => by omega⟩
theorem sub_eq0 {a b : Nat} (ha : a < 1000) (hb : b < 1000) : (nI a - nI b = 0) = (a = b) := by
  have h := pk_sub_toInt (a := a) (b := b) (by omega) (by omega)
  refine propext ⟨fun z => ?_, fun z => ?_⟩
  · rw [z, show (0 : Int32).toInt = 0 from rfl] at h
    omega
  · rw [z]; exact Int32.sub_self _
theorem e_orderL {t : List Nat} {D : dS} {tq : List Nat} {Q : cQ} {S : md_S} {x y n m : Int32} {tx ty : List Nat} (N : Nat) (hS : rSt t D tq Q S) (hx : sDe t tq x n tx) (hy : sDe t tq y m ty) : ∀ (k fu i : Nat), i + k = 8 → k + 1 ≤ fu → i ≤ tx.length → i ≤ ty.length → (∀ j, j < i → lk tx j = lk ty j) → ∃ v, mo_order_l3 N fu x n y m (nI i) S = some (v, S) ∧ (v = 0 ↔ tx = ty) ∧ (v < 0 ↔ lexL tx ty = true) := by
  have fin : ∀ i, i ≤ tx.length → i ≤ ty.length → (tx.length ≤ i ∨ ty.length ≤ i) → (∀ j, j < i → lk tx j = lk ty j) → (n - m = 0 ↔ tx = ty) ∧ (n - m < 0 ↔ lexL tx ty = true) := fun i h1 h2 h3 h4 => by
    have l1 := hx.2.1
    have l2 := hy.2.1
    rw [hx.1, hy.1, sub_eq0 (by omega) (by omega), sub_lt0 (by omega) (by omega), lexL_drop h4 h1 h2]
    refine ⟨⟨fun z => lk_ext z (fun j hj => h4 j (by omega)), fun z => by rw [z]⟩, ?_⟩
    rcases h3 with h | h
    · rw [List.drop_eq_nil_of_le h]
      cases hd : ty.drop i with
      | nil =>
        have := List.drop_eq_nil_iff.mp hd
        rw [lexL]; simp; omega
      | cons c r =>
        have : i < ty.length := by
          rcases Nat.lt_or_ge i ty.length with z | z
          · exact z
          · rw [List.drop_eq_nil_of_le z] at hd; cases hd
        rw [lexL]; simp; omega
    · rw [List.drop_eq_nil_of_le h]
      cases hd : tx.drop i with
      | nil =>
        have := List.drop_eq_nil_iff.mp hd
        rw [lexL]; simp; omega
      | cons c r => rw [lexL]; simp; omega
  intro k
  induction k with
  | zero =>
    intro fu i hk hfu h1 h2 h3
    obtain ⟨fu, rfl⟩ : ∃ q, fu = q + 1 := ⟨fu - 1, by omega⟩
    have l1 := hx.2.1
    rw [mo_order_l3]
    unfold mo_order_j47
    rw [if_pos (by rw [hx.1]; exact nI_le (by omega) (by omega))]
    exact ⟨n - m, rfl, fin i h1 h2 (by omega) h3⟩
  | succ k ih =>
    intro fu i hk hfu h1 h2 h3
    obtain ⟨fu, rfl⟩ : ∃ q, fu = q + 1 := ⟨fu - 1, by omega⟩
    have l1 := hx.2.1
    have l2 := hy.2.1
    rw [mo_order_l3]
    unfold mo_order_j47
    by_cases c1 : tx.length ≤ i
    · rw [if_pos (by rw [hx.1]; exact nI_le c1 (by omega))]
      exact ⟨n - m, rfl, fin i h1 h2 (Or.inl c1) h3⟩
    · rw [if_neg (by rw [hx.1]; exact nI_ge (by omega) (by omega))]
      by_cases c2 : ty.length ≤ i
      · rw [if_pos (by rw [hy.1]; exact nI_le c2 (by omega))]
        exact ⟨n - m, rfl, fin i h1 h2 (Or.inr c2) h3⟩
      · rw [if_neg (by rw [hy.1]; exact nI_ge (by omega) (by omega))]
        obtain ⟨a1, a2⟩ := e_letter hS hx (i := i) (by omega)
        obtain ⟨b1, b2⟩ := e_letter hS hy (i := i) (by omega)
        rw [a1]
        simp only [md_bs]
        rw [b1]
        simp only [md_bs, sub_eq0 (show lk tx i < 1000 by omega) (show lk ty i < 1000 by omega)]
        by_cases e : lk tx i = lk ty i
        · rw [if_pos e, nI_1]
          refine ih fu (i + 1) (by omega) (by omega) (by omega) (by omega) fun j hj => ?_
          by_cases z : j = i
          · rw [z]; exact e
          · exact h3 j (by omega)
        · rw [if_neg e]
          refine ⟨_, rfl, ?_, ?_⟩
          · rw [sub_eq0 (by omega) (by omega)]
            exact ⟨fun z => absurd z e, fun z => by rw [z]⟩
          · rw [sub_lt0 (by omega) (by omega), lexL_drop h3 h1 h2]
            have d1 : tx.drop i = lk tx i :: tx.drop (i + 1) := by
              unfold lk
              rw [List.getD_eq_getElem?_getD, List.getElem?_eq_getElem (by omega)]
              exact List.drop_eq_getElem_cons (by omega)
            have d2 : ty.drop i = lk ty i :: ty.drop (i + 1) := by
              unfold lk
              rw [List.getD_eq_getElem?_getD, List.getElem?_eq_getElem (by omega)]
              exact List.drop_eq_getElem_cons (by omega)
            rw [d1, d2, lexL, if_neg e]
            simp
theorem e_order {t : List Nat} {D : dS} {tq : List Nat} {Q : cQ} {S : md_S} {x y n m : Int32} {tx ty : List Nat} {N : Nat} (hN : 161 ≤ N) (hS : rSt t D tq Q S) (hx : sDe t tq x n tx) (hy : sDe t tq y m ty) : ∃ v, mo_order N x n y m S = some (v, S) ∧ (v = 0 ↔ tx = ty) ∧ (v < 0 ↔ lexL tx ty = true) := by
  unfold mo_order
  rw [show (0 : Int32) = nI 0 from rfl]
  exact e_orderL N hS hx hy 8 N 0 (by omega) (by omega) (Nat.zero_le _) (Nat.zero_le _) (fun j hj => absurd hj (by omega))
/-- a node's string -/
theorem sDe_n {t : List Nat} {D : dS} {tq : List Nat} {Q : cQ} {S : md_S} (hS : rSt t D tq Q S) {n : Nat} (hn : n < D.1) (h4 : nkd (D.2 n) = 4) : sDe t tq (S.2 15 n + 1) (S.2 17 n) (ntx (D.2 n)) := by
  obtain ⟨⟨g, hI⟩, _, _⟩ := hS.1.1
  have hr := hS.1.2.1.2.2.1 n hn
  obtain ⟨y1, y2, y3, y4⟩ := hI.2.2.2.2.2.2.2.1 n hn h4
  refine ⟨by rw [hr.2.2.2.1 (Or.inr h4), y2], y4, Or.inl ⟨nbe (D.2 n) + 1, by rw [hr.2.2.1, nI_1], y3, y1⟩⟩
/-- two nodes without what they hold -/
def lfA (D : dS) (i j : Nat) : Bool := nkd (D.2 i) == nkd (D.2 j) && (if nkd (D.2 i) = 3 then nsz (D.2 i) == nsz (D.2 j) else if nkd (D.2 i) = 4 then ntx (D.2 i) == ntx (D.2 j) else true)
theorem e_leafA {t : List Nat} {D : dS} {tq : List Nat} {Q : cQ} {S : md_S} {i j N : Nat} (hN : 161 ≤ N) (hS : rSt t D tq Q S) (hi : i < D.1) (hj : j < D.1) : mo_isLeafAlike N (nI i) (nI j) S = some (bI (lfA D i j), S) := by
  have h40 : D.1 ≤ 40 := hS.1.2.1.2.1
  have hri := hS.1.2.1.2.2.1 i hi
  have hrj := hS.1.2.1.2.2.1 j hj
  unfold mo_isLeafAlike mo_isLeafAlike_j47 mo_isLeafAlike_j93 mo_isLeafAlike_j98 lfA
  simp only [if_pos (nI_in (show i < 41 by omega) (by omega)), nI_clamp (show i < 2 ^ 31 by omega), if_pos (nI_in (show j < 41 by omega) (by omega)), nI_clamp (show j < 2 ^ 31 by omega), hri.1, hrj.1]
  by_cases e : nkd (D.2 i) = nkd (D.2 j)
  · rw [if_pos e, beq_iff_eq.mpr e, Bool.true_and]
    by_cases e3 : nkd (D.2 i) = 3
    · rw [if_pos e3, if_pos e3, hri.2.2.2.1 (Or.inl e3), hrj.2.2.2.1 (Or.inl (by rw [← e]; exact e3))]
      by_cases es : nsz (D.2 i) = nsz (D.2 j)
      · rw [if_pos es, if_pos (Or.inr rfl), beq_iff_eq.mpr es]; rfl
      · rw [if_neg es, if_pos (Or.inl rfl), beq_eq_false_iff_ne.mpr es]; rfl
    · rw [if_neg e3, if_neg e3]
      by_cases e4 : nkd (D.2 i) = 4
      · rw [if_pos e4, if_pos e4]
        obtain ⟨v, v1, v2, v3⟩ := e_order hN hS (sDe_n hS hi e4) (sDe_n hS hj (by rw [← e]; exact e4))
        rw [v1]
        simp only [md_bs]
        by_cases es : ntx (D.2 i) = ntx (D.2 j)
        · rw [if_pos (v2.mpr es), if_pos (Or.inr rfl), beq_iff_eq.mpr es]; rfl
        · rw [if_neg (fun z => es (v2.mp z)), if_pos (Or.inl rfl), beq_eq_false_iff_ne.mpr es]; rfl
      · rw [if_neg e4, if_neg e4, if_pos (Or.inr rfl)]; rfl
  · rw [if_neg e, beq_eq_false_iff_ne.mpr e]; rfl
