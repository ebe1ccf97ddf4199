/-! What holds of every document that was read. -/
def kF (D : dS) (n m : Nat) : List Nat := (List.range m).filter (fun k => nou (D.2 k) == some n)
def isB (x : Int32) : Prop := x = 5 ∨ x = 6
def dI (t : List Nat) (g : Nat → Nat) (D : dS) : Prop :=
  (D.1 ≤ 40 ∧ ∀ k, k < D.1 → g k ≤ 6) ∧
  (∀ k, k < D.1 → ∀ o, nou (D.2 k) = some o → o < k ∧ isB (nkd (D.2 o)) ∧ g k = g o + 1) ∧
  (∀ n, n < D.1 → nki (D.2 n) = kF D n D.1) ∧
  (∀ n, n < D.1 → nkd (D.2 n) ≠ 3 ∧ nkd (D.2 n) ≠ 4 → nsz (D.2 n) = nI (nki (D.2 n)).length) ∧
  (∀ k o, k < D.1 → nou (D.2 k) = some o → npl (D.2 k) = (kF D o k).length) ∧
  (∀ n e a, n < D.1 → nfi (D.2 n) = some (e, a) → n < a ∧ a ≤ D.1 ∧ nbe (D.2 n) ≤ e ∧ e ≤ t.length ∧ (∀ k, k < D.1 → nou (D.2 k) = some n → k < a) ∧ ∀ j, n < j → j < a → g n < g j) ∧
  (∀ j k n, j < D.1 → k < D.1 → nou (D.2 j) = some n → nou (D.2 k) = some n → nkd (D.2 n) = 6 → nnm (D.2 j) = nnm (D.2 k) → j = k) ∧
  (∀ n, n < D.1 → nkd (D.2 n) = 4 → ntx (D.2 n) = sl t (nbe (D.2 n) + 1) (ntx (D.2 n)).length ∧ nsz (D.2 n) = nI (ntx (D.2 n)).length ∧ nbe (D.2 n) + 1 + (ntx (D.2 n)).length ≤ t.length ∧ (ntx (D.2 n)).length ≤ 8) ∧
  (∀ n, n < D.1 → (nkd (D.2 n) = 0 ∨ nkd (D.2 n) = 1 ∨ nkd (D.2 n) = 2 ∨ nkd (D.2 n) = 3 ∨ nkd (D.2 n) = 4 ∨ isB (nkd (D.2 n))) ∧ (nnm (D.2 n) = [] ∨ ∃ a m, m ≤ 8 ∧ a + m ≤ t.length ∧ nnm (D.2 n) = sl t a m))
theorem kF_c {D D' : dS} {n m : Nat} (h : ∀ k, k < m → nou (D'.2 k) = nou (D.2 k)) : kF D' n m = kF D n m := by
  unfold kF
  refine List.filter_congr fun k hk => ?_
  rw [h k (List.mem_range.mp hk)]
theorem kF_s {D : dS} {n m : Nat} : kF D n (m + 1) = kF D n m ++ (if nou (D.2 m) = some n then [m] else []) := by
  unfold kF
  rw [List.range_succ, List.filter_append]
  congr 1
  by_cases h : nou (D.2 m) = some n
  · simp [h]
  · simp [h]
theorem kF_m {D : dS} {n m k : Nat} : k ∈ kF D n m ↔ k < m ∧ nou (D.2 k) = some n := by
  unfold kF
  rw [List.mem_filter, List.mem_range]
  simp
def gN (g : Nat → Nat) (ou : Option Nat) : Nat := match ou with
  | none => 0
  | some o => g o + 1
theorem dI_add {t : List Nat} {g : Nat → Nat} {D : dS} {ou : Option Nat} {nm : List Nat} {be : Nat} (h : dI t g D) (h40 : D.1 < 40) (ho : ∀ o, ou = some o → o < D.1 ∧ isB (nkd (D.2 o)) ∧ nfi (D.2 o) = none ∧ g o + 1 ≤ 6 ∧ (nkd (D.2 o) = 6 → ∀ k, k < D.1 → nou (D.2 k) = some o → nnm (D.2 k) ≠ nm)) (hnm : nm = [] ∨ ∃ a m, m ≤ 8 ∧ a + m ≤ t.length ∧ nm = sl t a m) :
    ∃ g', (∀ k, k < D.1 → g' k = g k) ∧ (∀ o, ou = some o → g' D.1 = g o + 1) ∧ (ou = none → g' D.1 = 0) ∧ dI t g' (addD D ou nm be) := by
  obtain ⟨⟨h1, h1b⟩, h2, h3, h4, h5, h6, h7, h8, h9⟩ := h
  obtain ⟨pl, hs⟩ := addD_s (D := D) (ou := ou) (nm := nm) (be := be)
  have hpl : ∀ o, ou = some o → (addD D ou nm be).2 D.1 = nwR nm (some o) (nki (D.2 o)).length be := fun o e => by subst e; exact dU_s
  have hne : ∀ k, k ≠ D.1 → (addD D ou nm be).2 k = if ou = some k then bump (D.2 k) D.1 else D.2 k := fun k hk => addD_n hk
  have q1 : ∀ k, k ≠ D.1 → nkd ((addD D ou nm be).2 k) = nkd (D.2 k) := fun k hk => by rw [hne k hk]; split <;> rfl
  have q2 : ∀ k, k ≠ D.1 → nou ((addD D ou nm be).2 k) = nou (D.2 k) := fun k hk => by rw [hne k hk]; split <;> rfl
  have q3 : ∀ k, k ≠ D.1 → npl ((addD D ou nm be).2 k) = npl (D.2 k) := fun k hk => by rw [hne k hk]; split <;> rfl
  have q4 : ∀ k, k ≠ D.1 → nfi ((addD D ou nm be).2 k) = nfi (D.2 k) := fun k hk => by rw [hne k hk]; split <;> rfl
  have q5 : ∀ k, k ≠ D.1 → nbe ((addD D ou nm be).2 k) = nbe (D.2 k) := fun k hk => by rw [hne k hk]; split <;> rfl
  have q6 : ∀ k, k ≠ D.1 → nnm ((addD D ou nm be).2 k) = nnm (D.2 k) := fun k hk => by rw [hne k hk]; split <;> rfl
  have q7 : ∀ k, k ≠ D.1 → ntx ((addD D ou nm be).2 k) = ntx (D.2 k) := fun k hk => by rw [hne k hk]; split <;> rfl
  have ko : nou ((addD D ou nm be).2 D.1) = ou := by rw [hs]; rfl
  have kk : nkd ((addD D ou nm be).2 D.1) = 0 := by rw [hs]; rfl
  have nB : ¬ isB 0 := by unfold isB; decide
  have noD : ∀ k, k < D.1 → nou (D.2 k) ≠ some D.1 := fun k hk z => by have := (h2 k hk D.1 z).1; omega
  refine ⟨fun k => if k = D.1 then gN g ou else g k, fun k hk => if_neg (by omega), fun o e => by rw [e]; exact if_pos rfl, fun e => by rw [e]; exact if_pos rfl, ⟨by rw [addD1]; omega, fun k hk => ?_⟩, fun k hk o e => ?_, fun n hn => ?_, fun n hn hB => ?_, fun k o hk e => ?_, fun n e a hn hf => ?_, fun j k n hj hk e1 e2 e3 e4 => ?_, fun n hn e => ?_, fun n hn => ?_⟩
  · rw [addD1] at hk
    simp only
    split
    · cases ou with
      | none => exact Nat.zero_le _
      | some o => exact (ho o rfl).2.2.2.1
    · exact h1b k (by omega)
  · rw [addD1] at hk
    by_cases ek : k = D.1
    · subst ek
      rw [ko] at e
      have := ho o e
      refine ⟨this.1, by rw [q1 o (by omega)]; exact this.2.1, ?_⟩
      simp only [if_true]
      rw [if_neg (by omega), e]; rfl
    · rw [q2 k ek] at e
      have := h2 k (by omega) o e
      refine ⟨this.1, by rw [q1 o (by omega)]; exact this.2.1, ?_⟩
      simp only
      rw [if_neg ek, if_neg (by omega)]
      exact this.2.2
  · rw [addD1] at hn ⊢
    by_cases en : n = D.1
    · subst en
      have e0 : nki ((addD D ou nm be).2 D.1) = [] := by rw [hs]; rfl
      rw [e0]
      symm
      refine List.eq_nil_iff_forall_not_mem.mpr fun k hk => ?_
      rw [kF_m] at hk
      by_cases ek : k = D.1
      · subst ek
        rw [ko] at hk
        have := (ho _ hk.2).1
        omega
      · rw [q2 k ek] at hk
        exact noD k (by omega) hk.2
    · rw [kF_s, kF_c (D := D) (fun k hk => q2 k (by omega)), ko, hne n en, ← h3 n (by omega)]
      by_cases eo : ou = some n
      · rw [if_pos eo, if_pos eo]; rfl
      · rw [if_neg eo, if_neg eo, List.append_nil]
  · rw [addD1] at hn
    by_cases en : n = D.1
    · subst en
      rw [hs]; rfl
    · rw [q1 n en] at hB
      have := h4 n (by omega) hB
      rw [hne n en]
      split
      · show nsz (D.2 n) + 1 = nI (nki (D.2 n) ++ [D.1]).length
        rw [this, nI_1]; simp
      · exact this
  · rw [addD1] at hk
    by_cases ek : k = D.1
    · subst ek
      rw [ko] at e
      rw [hpl o e, kF_c (D := D) (fun k hk => q2 k (by omega)), ← h3 o (ho o e).1]
      rfl
    · rw [q2 k ek] at e
      rw [q3 k ek, kF_c (D := D) (fun j hj => q2 j (by omega))]
      exact h5 k o (by omega) e
  · rw [addD1] at hn ⊢
    by_cases en : n = D.1
    · subst en
      rw [hs] at hf
      cases hf
    · rw [q4 n en] at hf
      obtain ⟨x1, x2, x3, x4, x5, x6⟩ := h6 n e a (by omega) hf
      refine ⟨x1, by omega, by rw [q5 n en]; exact x3, x4, fun k hk ek2 => ?_, fun j h1 h2 => by simp only; rw [if_neg en, if_neg (by omega)]; exact x6 j h1 h2⟩
      by_cases ek : k = D.1
      · subst ek
        rw [ko] at ek2
        have := (ho n ek2).2.2.1
        rw [this] at hf
        cases hf
      · rw [q2 k ek] at ek2
        exact x5 k (by omega) ek2
  · rw [addD1] at hj hk
    by_cases ej : j = D.1
    · subst ej
      by_cases ek : k = D.1
      · exact ek.symm
      · exfalso
        rw [ko] at e1
        have hh := ho n e1
        rw [q2 k ek] at e2
        rw [q1 n (by omega)] at e3
        rw [q6 k ek] at e4
        have : nnm ((addD D ou nm be).2 D.1) = nm := by rw [hs]; rfl
        rw [this] at e4
        exact hh.2.2.2.2 e3 k (by omega) e2 e4.symm
    · by_cases ek : k = D.1
      · exfalso
        subst ek
        rw [ko] at e2
        have hh := ho n e2
        rw [q2 j ej] at e1
        rw [q1 n (by omega)] at e3
        rw [q6 j ej] at e4
        have : nnm ((addD D ou nm be).2 D.1) = nm := by rw [hs]; rfl
        rw [this] at e4
        exact hh.2.2.2.2 e3 j (by omega) e1 e4
      · rw [q2 j ej] at e1
        rw [q2 k ek] at e2
        rw [q6 j ej, q6 k ek] at e4
        have := (h2 j (by omega) n e1).1
        rw [q1 n (by omega)] at e3
        exact h7 j k n (by omega) (by omega) e1 e2 e3 e4
  · rw [addD1] at hn
    by_cases en : n = D.1
    · subst en
      rw [kk] at e
      exact absurd e (by decide)
    · rw [q1 n en] at e
      have hB : ¬ (ou = some n) := fun z => by
        have := (ho n z).2.1
        rw [e] at this
        unfold isB at this
        exact absurd this (by decide)
      rw [hne n en, if_neg hB]
      exact h8 n (by omega) e
  · rw [addD1] at hn
    by_cases en : n = D.1
    · subst en
      rw [kk]
      refine ⟨Or.inl rfl, ?_⟩
      have : nnm ((addD D ou nm be).2 D.1) = nm := by rw [hs]; rfl
      rw [this]; exact hnm
    · rw [q1 n en, q6 n en]
      exact h9 n (by omega)
/-- a node whose kind, size and text are set -/
theorem dI_U {t : List Nat} {g : Nat → Nat} {D : dS} {n : Nat} {kd sz : Int32} {tx : List Nat} (h : dI t g D) (hn : n < D.1) (he : nki (D.2 n) = []) (hk : kd ≠ 3 ∧ kd ≠ 4 → sz = 0) (h4 : kd = 4 → tx = sl t (nbe (D.2 n) + 1) tx.length ∧ sz = nI tx.length ∧ nbe (D.2 n) + 1 + tx.length ≤ t.length ∧ tx.length ≤ 8) (hv : kd = 0 ∨ kd = 1 ∨ kd = 2 ∨ kd = 3 ∨ kd = 4 ∨ isB kd) : dI t g (setP D n kd sz tx) := by
  obtain ⟨⟨h1, h1b⟩, h2, h3, h4', h5, h6, h7, h8, h9⟩ := h
  have hs : (setP D n kd sz tx).2 n = (kd, sz, tx, (D.2 n).2.2.2) := dU_s
  have hne : ∀ k, k ≠ n → (setP D n kd sz tx).2 k = D.2 k := fun k hk => dU_n hk
  have q2 : ∀ k, nou ((setP D n kd sz tx).2 k) = nou (D.2 k) := fun k => by
    by_cases e : k = n
    · rw [e, hs]
    · rw [hne k e]
  have q3 : ∀ k, (nki ((setP D n kd sz tx).2 k) = nki (D.2 k)) ∧ (npl ((setP D n kd sz tx).2 k) = npl (D.2 k)) ∧ (nfi ((setP D n kd sz tx).2 k) = nfi (D.2 k)) ∧ (nbe ((setP D n kd sz tx).2 k) = nbe (D.2 k)) ∧ (nnm ((setP D n kd sz tx).2 k) = nnm (D.2 k)) := fun k => by
    by_cases e : k = n
    · rw [e, hs]; exact ⟨rfl, rfl, rfl, rfl, rfl⟩
    · rw [hne k e]; exact ⟨rfl, rfl, rfl, rfl, rfl⟩
  have noK : ∀ k, k < D.1 → nou (D.2 k) ≠ some n := fun k hk z => by
    have : k ∈ kF D n D.1 := kF_m.mpr ⟨hk, z⟩
    rw [← h3 n hn, he] at this
    cases this
  refine ⟨⟨h1, h1b⟩, fun k hk o e => ?_, fun m hm => ?_, fun m hm hB => ?_, fun k o hk e => ?_, fun m e a hm hf => ?_, fun j k m hj hk e1 e2 e3 e4 => ?_, fun m hm e => ?_, fun m hm => ?_⟩
  · rw [q2] at e
    have := h2 k hk o e
    have hon : o ≠ n := fun z => noK k hk (by rw [e, z])
    rw [hne o hon]; exact this
  · rw [(q3 m).1, kF_c (D := D) (fun k _ => q2 k)]; exact h3 m hm
  · by_cases e : m = n
    · subst e
      rw [hs] at hB ⊢
      have := hk hB
      subst this
      show 0 = nI (nki (D.2 m)).length
      rw [he]; rfl
    · rw [hne m e] at hB ⊢; exact h4' m hm hB
  · rw [q2] at e
    rw [(q3 k).2.1, kF_c (D := D) (fun k _ => q2 k)]; exact h5 k o hk e
  · rw [(q3 m).2.2.1] at hf
    obtain ⟨x1, x2, x3, x4, x5, x6⟩ := h6 m e a hm hf
    exact ⟨x1, x2, by rw [(q3 m).2.2.2.1]; exact x3, x4, fun k hk ek => x5 k hk (by rw [← q2]; exact ek), x6⟩
  · rw [q2] at e1 e2
    rw [(q3 j).2.2.2.2, (q3 k).2.2.2.2] at e4
    have hmn : m ≠ n := fun z => noK j hj (by rw [e1, z])
    rw [hne m hmn] at e3
    exact h7 j k m hj hk e1 e2 e3 e4
  · by_cases em : m = n
    · subst em
      rw [hs] at e ⊢
      exact h4 e
    · rw [hne m em] at e ⊢; exact h8 m hm e
  · rw [(q3 m).2.2.2.2]
    refine ⟨?_, (h9 m hm).2⟩
    by_cases em : m = n
    · subst em
      rw [hs]; exact hv
    · rw [hne m em]; exact (h9 m hm).1
theorem dI_F {t : List Nat} {g : Nat → Nat} {D : dS} {n e : Nat} (h : dI t g D) (hn : n < D.1) (hb : nbe (D.2 n) ≤ e) (he : e ≤ t.length) (hj : ∀ j, n < j → j < D.1 → g n < g j) : dI t g (setF D n e) := by
  obtain ⟨⟨h1, h1b⟩, h2, h3, h4', h5, h6, h7, h8, h9⟩ := h
  have hne : ∀ k, k ≠ n → (setF D n e).2 k = D.2 k := fun k hk => dU_n hk
  have q : ∀ k, (nkd ((setF D n e).2 k) = nkd (D.2 k)) ∧ (nsz ((setF D n e).2 k) = nsz (D.2 k)) ∧ (ntx ((setF D n e).2 k) = ntx (D.2 k)) ∧ (nnm ((setF D n e).2 k) = nnm (D.2 k)) ∧ (nou ((setF D n e).2 k) = nou (D.2 k)) ∧ (npl ((setF D n e).2 k) = npl (D.2 k)) ∧ (nbe ((setF D n e).2 k) = nbe (D.2 k)) ∧ (nki ((setF D n e).2 k) = nki (D.2 k)) := fun k => by
    by_cases z : k = n
    · subst z
      have hs : (setF D k e).2 k = _ := dU_s
      rw [hs]; exact ⟨rfl, rfl, rfl, rfl, rfl, rfl, rfl, rfl⟩
    · rw [hne k z]; exact ⟨rfl, rfl, rfl, rfl, rfl, rfl, rfl, rfl⟩
  have q2 := fun k => (q k).2.2.2.2.1
  refine ⟨⟨h1, h1b⟩, fun k hk o e => ?_, fun m hm => ?_, fun m hm hB => ?_, fun k o hk e => ?_, fun m e' a hm hf => ?_, fun j k m hj hk e1 e2 e3 e4 => ?_, fun m hm e => ?_, fun m hm => ?_⟩
  · rw [q2] at e
    rw [(q o).1]; exact h2 k hk o e
  · rw [(q m).2.2.2.2.2.2.2, kF_c (D := D) (fun k _ => q2 k)]; exact h3 m hm
  · rw [(q m).1] at hB
    rw [(q m).2.1, (q m).2.2.2.2.2.2.2]; exact h4' m hm hB
  · rw [q2] at e
    rw [(q k).2.2.2.2.2.1, kF_c (D := D) (fun k _ => q2 k)]; exact h5 k o hk e
  · rw [(q m).2.2.2.2.2.2.1]
    by_cases z : m = n
    · subst z
      have hs : (setF D m e).2 m = _ := dU_s
      rw [hs] at hf
      cases hf
      exact ⟨hn, Nat.le_refl _, hb, he, fun k hk _ => hk, hj⟩
    · rw [hne m z] at hf
      obtain ⟨x1, x2, x3, x4, x5, x6⟩ := h6 m e' a hm hf
      exact ⟨x1, x2, x3, x4, fun k hk ek => x5 k hk (by rw [← q2]; exact ek), x6⟩
  · rw [q2] at e1 e2
    rw [(q j).2.2.2.1, (q k).2.2.2.1] at e4
    rw [(q m).1] at e3
    exact h7 j k m hj hk e1 e2 e3 e4
  · rw [(q m).1] at e
    rw [(q m).2.1, (q m).2.2.1, (q m).2.2.2.2.2.2.1]; exact h8 m hm e
  · rw [(q m).1, (q m).2.2.2.1]; exact h9 m hm
