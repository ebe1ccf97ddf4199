/-! that the tables hold together: ops find what they take, names and paths lie where they say -/
def okL (os : Nat → Int32 × Int32 × Int32) : List Nat → Nat → Option Nat
  | [], n => some n
  | k :: r, n => if (os k).1 = 3 ∨ (os k).1 = 8 then (if 1 ≤ n then okL os r n else none) else if (os k).1 = 7 ∨ (os k).1 = 9 ∨ (os k).1 = 10 then (if 2 ≤ n then okL os r (n - 1) else none) else if n < 15 then okL os r (n + 1) else none
theorem okL_app {os : Nat → Int32 × Int32 × Int32} : ∀ {a b : List Nat} {n m : Nat}, okL os a n = some m → okL os (a ++ b) n = okL os b m
  | [], b, n, m, h => by cases h; rfl
  | k :: r, b, n, m, h => by
    rw [List.cons_append, okL]
    rw [okL] at h
    split
    next h1 =>
      rw [if_pos h1] at h
      split
      next h2 => rw [if_pos h2] at h; exact okL_app h
      next h2 => rw [if_neg h2] at h; cases h
    next h1 =>
      rw [if_neg h1] at h
      split
      next h2 =>
        rw [if_pos h2] at h
        split
        next h3 => rw [if_pos h3] at h; exact okL_app h
        next h3 => rw [if_neg h3] at h; cases h
      next h2 =>
        rw [if_neg h2] at h
        split
        next h3 => rw [if_pos h3] at h; exact okL_app h
        next h3 => rw [if_neg h3] at h; cases h
def sm (x : Int32) : Prop := -1000 < x.toInt ∧ x.toInt < 1000
def okO (tq : List Nat) (P : Nat → Prop) (o : Int32 × Int32 × Int32) : Prop :=
  ((o.1 = 0 ∨ o.1 = 1 ∨ o.1 = 2) ∧ ∃ a, a < 100 ∧ o.2.1 = nI a ∧ P a) ∨ o.1 = 3 ∨ o.1 = 4 ∨ (o.1 = 5 ∧ ∃ p n, o.2.1 = nI p ∧ o.2.2 = nI n ∧ p + n ≤ tq.length ∧ n ≤ 8) ∨ (o.1 = 6 ∧ (o.2.1 = 0 ∨ o.2.1 = 1 ∨ o.2.1 = 2)) ∨ (o.1 = 7 ∧ ∃ r, r < 6 ∧ o.2.1 = nI r) ∨ o.1 = 8 ∨ o.1 = 9 ∨ o.1 = 10
def okK (tq : List Nat) (Q : cQ) (P : Nat → Prop) (k : Int32 × Int32 × Int32 × Int32 × Int32) : Prop :=
  (k.1 = 0 ∧ ∃ p n, k.2.1 = nI p ∧ k.2.2.1 = nI n ∧ p + n ≤ tq.length ∧ n ≤ 8) ∨ k.1 = 1 ∨ (k.1 = 2 ∧ sm k.2.1) ∨ (k.1 = 3 ∧ sm k.2.1 ∧ sm k.2.2.1 ∧ sm k.2.2.2.1 ∧ (k.2.2.2.2 = 0 ∨ k.2.2.2.2 = 1 ∨ k.2.2.2.2 = 2 ∨ k.2.2.2.2 = 3)) ∨
  (k.1 = 4 ∧ ∃ c, c < (qc Q).1 ∧ k.2.1 = nI c ∧ okL (qo Q).2 ((qc Q).2 c) 0 = some 1 ∧ ∀ o, o ∈ (qc Q).2 c → okO tq P ((qo Q).2 o))
def okP (tq : List Nat) (Q : cQ) : Nat → Nat → Prop
  | 0, _ => False
  | g + 1, a => a < (qp Q).1 ∧ ∀ s, s ∈ (qp Q).2.2 a → ∀ k, k ∈ (qg Q).2.2 s → okK tq Q (okP tq Q g) ((qk Q).2 k)
theorem okO.mn {tq : List Nat} {P P' : Nat → Prop} {o : Int32 × Int32 × Int32} (h : okO tq P o) (hp : ∀ a, P a → P' a) : okO tq P' o := by
  rcases h with ⟨h1, a, h2, h3, h4⟩ | h
  · exact Or.inl ⟨h1, a, h2, h3, hp a h4⟩
  · exact Or.inr h
theorem okK.mn {tq : List Nat} {Q : cQ} {P P' : Nat → Prop} {k : Int32 × Int32 × Int32 × Int32 × Int32} (h : okK tq Q P k) (hp : ∀ a, P a → P' a) : okK tq Q P' k := by
  rcases h with h | h | h | h | ⟨h1, c, h2, h3, h4, h5⟩
  · exact Or.inl h
  · exact Or.inr (Or.inl h)
  · exact Or.inr (Or.inr (Or.inl h))
  · exact Or.inr (Or.inr (Or.inr (Or.inl h)))
  · exact Or.inr (Or.inr (Or.inr (Or.inr ⟨h1, c, h2, h3, h4, fun o ho => (h5 o ho).mn hp⟩)))
theorem okP_s {tq : List Nat} {Q : cQ} : ∀ {g a : Nat}, okP tq Q g a → okP tq Q (g + 1) a
  | 0, a, h => h.elim
  | g + 1, a, h => ⟨h.1, fun s hs k hk => (h.2 s hs k hk).mn fun b hb => okP_s hb⟩
theorem okP_mn {tq : List Nat} {Q : cQ} {g a : Nat} (h : okP tq Q g a) : ∀ {g'}, g ≤ g' → okP tq Q g' a := fun {g'} hg => by
  obtain ⟨d, rfl⟩ : ∃ d, g' = g + d := ⟨g' - g, by omega⟩
  clear hg
  induction d with
  | zero => exact h
  | succ d ih => exact okP_s ih
/-- ops that push one value, with dm places left -/
def okE (t : List Nat) (nv : Nat) (X : cQ) (ol : List Nat) (dm : Nat) : Prop := (∀ n, n + dm ≤ 15 → okL (qo X).2 ol n = some (n + 1)) ∧ ∀ o, o ∈ ol → okO t (okP t X (nv + 1)) ((qo X).2 o)
def okV (t : List Nat) (nv : Nat) (Q Q' : cQ) (ol : List Nat) (dm : Nat) : Prop := ∀ X, agr Q Q' X → leQ Q' X → okE t nv X ol dm
theorem okE.mn {t : List Nat} {nv nv' dm dm' : Nat} {X : cQ} {ol : List Nat} (h : okE t nv X ol dm) (h1 : nv ≤ nv') (h2 : dm ≤ dm') : okE t nv' X ol dm' := ⟨fun n hn => h.1 n (by omega), fun o ho => (h.2 o ho).mn fun a ha => okP_mn ha (by omega)⟩
theorem okE_1 {t : List Nat} {nv dm k : Nat} {X : cQ} {o : Int32 × Int32 × Int32} (e : (qo X).2 k = o) (ho : okO t (okP t X (nv + 1)) o) (h1 : ¬ (o.1 = 3 ∨ o.1 = 8)) (h2 : ¬ (o.1 = 7 ∨ o.1 = 9 ∨ o.1 = 10)) (hd : 1 ≤ dm) : okE t nv X [k] dm := by
  refine ⟨fun n hn => ?_, fun x hx => ?_⟩
  · rw [okL, e, if_neg h1, if_neg h2, if_pos (by omega)]
    rfl
  · rw [List.mem_singleton.mp hx, e]; exact ho
theorem okE_u {t : List Nat} {nv dm k : Nat} {X : cQ} {ol : List Nat} {o : Int32 × Int32 × Int32} (h : okE t nv X ol dm) (e : (qo X).2 k = o) (h1 : o.1 = 3 ∨ o.1 = 8) : okE t nv X (ol ++ [k]) dm := by
  refine ⟨fun n hn => ?_, fun x hx => ?_⟩
  · rw [okL_app (h.1 n hn), okL, e, if_pos h1, if_pos (by omega)]
    rfl
  · rcases List.mem_append.mp hx with z | z
    · exact h.2 x z
    · rw [List.mem_singleton.mp z, e]
      rcases h1 with q | q
      · exact Or.inr (Or.inl q)
      · exact Or.inr (Or.inr (Or.inr (Or.inr (Or.inr (Or.inr (Or.inl q))))))
theorem okE_s {os : Nat → Int32 × Int32 × Int32} {k n : Nat} {o : Int32 × Int32 × Int32} (e : os k = o) (h2 : o.1 = 7 ∨ o.1 = 9 ∨ o.1 = 10) : okL os [k] (n + 2) = some (n + 1) := by
  have h1 : ¬ (o.1 = 3 ∨ o.1 = 8) := fun z => by
    rcases h2 with q | q | q <;> rw [q] at z <;> exact absurd z (by decide)
  rw [okL, e, if_neg h1, if_pos h2, if_pos (by omega)]
  rfl
theorem rdD_b {t : List Nat} : ∀ {m p a : Nat}, (rdD t m p a).2 < 10 ^ m * (a + 1)
  | 0, p, a => by simp [rdD]
  | m + 1, p, a => by
    rw [rdD]
    split
    next h =>
      refine Nat.lt_of_lt_of_le rdD_b ?_
      rw [Nat.pow_succ, Nat.mul_assoc]
      refine Nat.mul_le_mul_left _ ?_
      have := h.2
      omega
    · show a < _
      have : 1 ≤ 10 ^ (m + 1) := by
        have := Nat.pow_le_pow_right (show 0 < 10 by omega) (Nat.zero_le (m + 1))
        simpa using this
      calc a < 1 * (a + 1) := by omega
        _ ≤ 10 ^ (m + 1) * (a + 1) := Nat.mul_le_mul_right _ this
theorem rdN_sm {t : List Nat} {p p' : Nat} {v : Int32} (h : rdN t 3 p = .inl (v, p')) : sm v := by
  unfold rdN at h
  simp only at h
  by_cases z1 : lk t p ≠ 45 ∧ lk t p = 48
  · rw [if_pos z1] at h
    cases h
    exact ⟨by decide, by decide⟩
  · rw [if_neg z1] at h
    by_cases z2 : ¬ isDg t (if lk t p = 45 then p + 1 else p) ∨ lk t (if lk t p = 45 then p + 1 else p) = 48
    · rw [if_pos z2] at h; cases h
    · rw [if_neg z2] at h
      by_cases z3 : isDg t (rdD t 3 (if lk t p = 45 then p + 1 else p) 0).1
      · rw [if_pos z3] at h; cases h
      · rw [if_neg z3] at h
        have h2 := (Prod.mk.inj (Sum.inl.inj h)).1
        have hb := rdD_b (t := t) (m := 3) (p := if lk t p = 45 then p + 1 else p) (a := 0)
        have hb' : (rdD t 3 (if lk t p = 45 then p + 1 else p) 0).2 < 1000 := by simpa using hb
        rw [← h2]
        generalize (rdD t 3 (if lk t p = 45 then p + 1 else p) 0).2 = y at hb'
        unfold sm
        split
        · rw [sb_negT (by omega)]; omega
        · rw [nI_toInt (by omega)]; omega
