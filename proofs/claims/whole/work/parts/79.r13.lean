/-! what the reference answers of a document -/
theorem kF_sorted {D : dS} {n m : Nat} : (kF D n m).Pairwise (· < ·) := List.Pairwise.filter _ List.pairwise_lt_range
/-- a document that was read, as the reference keeps it -/
def rE (t : List Nat) (D : dS) (S : md_S) : Prop := dW t D ∧ rD t D [] S ∧ rA 11 t S
theorem rE.last {t : List Nat} {D : dS} {S : md_S} (h : rE t D S) {n : Nat} (hn : n < D.1) : ∃ e a, nfi (D.2 n) = some (e, a) ∧ n < a ∧ a ≤ D.1 ∧ D.1 ≤ 40 ∧ S.2 14 n = nI (a - 1) ∧ S.2 16 n = nI e ∧ nbe (D.2 n) ≤ e ∧ e ≤ t.length ∧ (∀ k, k < D.1 → nou (D.2 k) = some n → k < a) := by
  obtain ⟨⟨⟨g, hI⟩, h0, hf⟩, hD, hA⟩ := h
  cases hx : nfi (D.2 n) with
  | none => exact absurd hx (hf n hn).1
  | some q =>
    obtain ⟨e, a⟩ := q
    obtain ⟨x1, x2, x3, x4, x5, x6⟩ := hI.2.2.2.2.2.1 n e a hn hx
    have hr := (hD.2.2.1 n hn).2.2.2.2.2 e a hx
    refine ⟨e, a, rfl, x1, x2, hI.1.1, ?_, hr.1, x3, x4, x5⟩
    rw [hr.2]
    obtain ⟨b, rfl⟩ : ∃ b, a = b + 1 := ⟨a - 1, by omega⟩
    exact nI_pred b
/-- the children behind b -/
def kidsB (D : dS) (n b : Nat) : List Nat := (kF D n D.1).filter (fun k => decide (b < k))
theorem oI_eq {t : List Nat} {g : Nat → Nat} {D : dS} (hI : dI t g D) {n k : Nat} (hn : n < D.1) (hk : k < D.1) : (oI (nou (D.2 k)) = nI n) = (nou (D.2 k) = some n) := oI_some (by have := hI.1.1; omega) (fun o ho => by have := (hI.2.1 k hk o ho).1; have := hI.1.1; omega)
theorem kidsB_step {D : dS} {n b : Nat} (hb : b + 1 < D.1) : kidsB D n b = (if nou (D.2 (b + 1)) = some n then [b + 1] else []) ++ kidsB D n (b + 1) := by
  have key : ∀ m, b + 1 < m → (kF D n m).filter (fun k => decide (b < k)) = (if nou (D.2 (b + 1)) = some n then [b + 1] else []) ++ (kF D n m).filter (fun k => decide (b + 1 < k)) := by
    intro m
    induction m with
    | zero => intro h; omega
    | succ m ih =>
      intro h
      rw [kF_s, List.filter_append, List.filter_append]
      by_cases e : b + 1 = m
      · subst e
        have z1 : (kF D n (b + 1)).filter (fun k => decide (b < k)) = [] := by
          rw [List.filter_eq_nil_iff]
          intro k hk
          have := (kF_m.mp hk).1
          simp; omega
        have z2 : (kF D n (b + 1)).filter (fun k => decide (b + 1 < k)) = [] := by
          rw [List.filter_eq_nil_iff]
          intro k hk
          have := (kF_m.mp hk).1
          simp; omega
        rw [z1, z2]
        split <;> simp
      · rw [ih (by omega), List.append_assoc]
        congr 2
        split
        · have h1 : b < m := by omega
          have h2 : b + 1 < m := by omega
          simp [h1, h2]
        · rfl
  exact key D.1 hb
theorem kidsB_end {D : dS} {n b : Nat} (h : ∀ k, k < D.1 → nou (D.2 k) = some n → k ≤ b) : kidsB D n b = [] := by
  unfold kidsB
  rw [List.filter_eq_nil_iff]
  intro k hk
  have := h k (kF_m.mp hk).1 (kF_m.mp hk).2
  simp; omega
theorem kidsB_0 {t : List Nat} {g : Nat → Nat} {D : dS} (hI : dI t g D) {n : Nat} (hn : n < D.1) : kidsB D n n = nki (D.2 n) := by
  rw [hI.2.2.1 n hn]
  unfold kidsB
  rw [List.filter_eq_self]
  intro k hk
  have := (hI.2.1 k (kF_m.mp hk).1 n (kF_m.mp hk).2).1
  simpa using this
/-- a child and those behind it -/
theorem kidsB_c {D : dS} {n b c : Nat} {r : List Nat} (h : kidsB D n b = c :: r) : kidsB D n c = r ∧ b < c ∧ c < D.1 ∧ nou (D.2 c) = some n := by
  have hs : (kidsB D n b).Pairwise (· < ·) := List.Pairwise.filter _ kF_sorted
  have hm : c ∈ kidsB D n b := by rw [h]; simp
  have hm2 := List.mem_filter.mp hm
  have hm3 := kF_m.mp hm2.1
  have hbc : b < c := by simpa using hm2.2
  refine ⟨?_, hbc, hm3.1, hm3.2⟩
  rw [h] at hs
  have hs2 := List.pairwise_cons.mp hs
  have : kidsB D n c = (kidsB D n b).filter (fun k => decide (c < k)) := by
    unfold kidsB
    rw [List.filter_filter]
    refine List.filter_congr fun k _ => ?_
    by_cases e : c < k
    · have : b < k := by omega
      simp [e, this]
    · simp [e]
  rw [this, h, List.filter_cons, if_neg (by simp), List.filter_eq_self]
  intro k hk
  simpa using hs2.1 k hk
theorem e_follL {t : List Nat} {D : dS} {S : md_S} (h : rE t D S) {n : Nat} (hn : n < D.1) (N : Nat) : ∀ (m f b : Nat), n ≤ b → b + m = 41 → m + 1 ≤ f → mo_follower_l4 N f (nI n) (nI (b + 1)) S = some (oI (kidsB D n b).head?, S) := by
  obtain ⟨e, a, h1, h2, h3, h4, h5, h6, h7, h8, h9⟩ := h.last hn
  obtain ⟨⟨⟨g, hI⟩, _, _⟩, hD, _⟩ := h
  intro m
  induction m with
  | zero =>
    intro f b hb hm hf
    obtain ⟨f, rfl⟩ : ∃ q, f = q + 1 := ⟨f - 1, by omega⟩
    rw [mo_follower_l4]
    simp only [if_pos (nI_in (show n < 41 by omega) (by omega)), nI_clamp (show n < 2 ^ 31 by omega), h5]
    rw [if_pos (nI_lt (by omega) (by omega))]
    unfold mo_follower_j30 mo_follower_j45
    simp only [if_pos (nI_in (show n < 41 by omega) (by omega)), nI_clamp (show n < 2 ^ 31 by omega), h5]
    rw [if_pos (nI_lt (by omega) (by omega)), kidsB_end (fun k hk ho => by have := h9 k hk ho; omega)]
    rfl
  | succ m ih =>
    intro f b hb hm hf
    obtain ⟨f, rfl⟩ : ∃ q, f = q + 1 := ⟨f - 1, by omega⟩
    rw [mo_follower_l4]
    simp only [if_pos (nI_in (show n < 41 by omega) (by omega)), nI_clamp (show n < 2 ^ 31 by omega), h5]
    by_cases e1 : a ≤ b + 1
    · rw [if_pos (nI_lt (by omega) (by omega))]
      unfold mo_follower_j30 mo_follower_j45
      simp only [if_pos (nI_in (show n < 41 by omega) (by omega)), nI_clamp (show n < 2 ^ 31 by omega), h5]
      rw [if_pos (nI_lt (by omega) (by omega)), kidsB_end (fun k hk ho => by have := h9 k hk ho; omega)]
      rfl
    · rw [if_neg (nI_nlt (by omega) (by omega))]
      simp only [if_pos (nI_in (show b + 1 < 41 by omega) (by omega)), nI_clamp (show b + 1 < 2 ^ 31 by omega), (hD.2.2.1 (b + 1) (by omega)).2.1, oI_eq hI hn (show b + 1 < D.1 by omega)]
      rw [kidsB_step (by omega)]
      by_cases e2 : nou (D.2 (b + 1)) = some n
      · rw [if_pos e2, if_pos e2]
        unfold mo_follower_j30 mo_follower_j45
        simp only [if_pos (nI_in (show n < 41 by omega) (by omega)), nI_clamp (show n < 2 ^ 31 by omega), h5]
        rw [if_neg (nI_nlt (by omega) (by omega))]
        rfl
      · rw [if_neg e2, if_neg e2, nI_1]
        exact ih f (b + 1) (by omega) (by omega) (by omega)
theorem e_foll {t : List Nat} {D : dS} {S : md_S} (h : rE t D S) {n b N : Nat} (hn : n < D.1) (hb : n ≤ b) (hb2 : b ≤ 41) (hN : 161 ≤ N) : mo_follower N (nI n) (nI b) S = some (oI (kidsB D n b).head?, S) := by
  unfold mo_follower
  rw [nI_1]
  exact e_follL h hn N (41 - b) N b hb (by omega) (by omega)
theorem e_chL {t : List Nat} {D : dS} {S : md_S} (h : rE t D S) {n : Nat} (hn : n < D.1) (N : Nat) : ∀ (m f b c : Nat), n ≤ b → b + m = 41 → m + 1 ≤ f → mo_children_l6 N f (nI n) (nI c) (nI (b + 1)) S = some (nI (c + (kidsB D n b).length), S) := by
  obtain ⟨e, a, h1, h2, h3, h4, h5, h6, h7, h8, h9⟩ := h.last hn
  obtain ⟨⟨⟨g, hI⟩, _, _⟩, hD, _⟩ := h
  intro m
  induction m with
  | zero =>
    intro f b c hb hm hf
    obtain ⟨f, rfl⟩ : ∃ q, f = q + 1 := ⟨f - 1, by omega⟩
    rw [mo_children_l6]
    simp only [if_pos (nI_in (show n < 41 by omega) (by omega)), nI_clamp (show n < 2 ^ 31 by omega), h5]
    rw [if_pos (nI_lt (by omega) (by omega)), kidsB_end (fun k hk ho => by have := h9 k hk ho; omega)]
    rfl
  | succ m ih =>
    intro f b c hb hm hf
    obtain ⟨f, rfl⟩ : ∃ q, f = q + 1 := ⟨f - 1, by omega⟩
    rw [mo_children_l6]
    simp only [if_pos (nI_in (show n < 41 by omega) (by omega)), nI_clamp (show n < 2 ^ 31 by omega), h5]
    by_cases e1 : a ≤ b + 1
    · rw [if_pos (nI_lt (by omega) (by omega)), kidsB_end (fun k hk ho => by have := h9 k hk ho; omega)]
      rfl
    · rw [if_neg (nI_nlt (by omega) (by omega))]
      simp only [if_pos (nI_in (show b + 1 < 41 by omega) (by omega)), nI_clamp (show b + 1 < 2 ^ 31 by omega), (hD.2.2.1 (b + 1) (by omega)).2.1, oI_eq hI hn (show b + 1 < D.1 by omega)]
      rw [kidsB_step (by omega), nI_1]
      by_cases e2 : nou (D.2 (b + 1)) = some n
      · rw [if_pos e2, if_pos e2, nI_1, ih f (b + 1) (c + 1) (by omega) (by omega) (by omega)]
        simp
        congr 1; omega
      · rw [if_neg e2, if_neg e2, Int32.add_zero, nI_1]
        exact ih f (b + 1) c (by omega) (by omega) (by omega)
theorem e_children {t : List Nat} {D : dS} {S : md_S} (h : rE t D S) {n N : Nat} (hn : n < D.1) (hN : 161 ≤ N) : mo_children N (nI n) S = some (nI (nki (D.2 n)).length, S) := by
  unfold mo_children
  have h40 : D.1 ≤ 40 := h.2.1.2.1
  rw [nI_1, show (0 : Int32) = nI 0 from rfl, e_chL h hn N (41 - n) N n 0 (Nat.le_refl _) (by omega) (by omega)]
  obtain ⟨⟨⟨g, hI⟩, _, _⟩, _, _⟩ := h
  rw [kidsB_0 hI hn, Nat.zero_add]
theorem e_caL {t : List Nat} {D : dS} {S : md_S} (h : rE t D S) {n : Nat} (hn : n < D.1) (N : Nat) (hN : 161 ≤ N) {i : Nat} (hi : i < 2 ^ 31) : ∀ (m f j : Nat) (q : List Nat) , j + m = i → (∃ b, n ≤ b ∧ b ≤ 41 ∧ q = kidsB D n b) → q.length + 2 ≤ f → mo_childAt_l18 N f (nI n) (nI i) (oI q.head?) (nI j) S = some (oI q[m]?, S) := by
  have h40 : D.1 ≤ 40 := h.2.1.2.1
  intro m
  induction m with
  | zero =>
    intro f j q hj hq hf
    obtain ⟨f, rfl⟩ : ∃ q, f = q + 1 := ⟨f - 1, by omega⟩
    rw [mo_childAt_l18, if_pos (nI_le (by omega) (by omega))]
    unfold mo_childAt_j42
    rw [List.head?_eq_getElem?]
  | succ m ih =>
    intro f j q hj hq hf
    obtain ⟨f, rfl⟩ : ∃ q, f = q + 1 := ⟨f - 1, by omega⟩
    rw [mo_childAt_l18, if_neg (nI_ge (by omega) (by omega))]
    cases q with
    | nil =>
      rw [if_pos (by rfl)]
      unfold mo_childAt_j42
      rfl
    | cons c r =>
      obtain ⟨b, b1, b2, b3⟩ := hq
      obtain ⟨c1, c2, c3, c4⟩ := kidsB_c b3.symm
      rw [if_neg (show ¬ oI (c :: r).head? = -1 from nI_m1 (by omega))]
      have : mo_follower N (nI n) (oI (c :: r).head?) S = some (oI (kidsB D n c).head?, S) := e_foll h hn (by omega) (by omega) hN
      rw [this, c1]
      simp only [md_bs]
      rw [nI_1, ih f (j + 1) r (by omega) ⟨c, by omega, by omega, c1.symm⟩ (by simp at hf; omega)]
      simp
theorem kids_len {t : List Nat} {g : Nat → Nat} {D : dS} (hI : dI t g D) {n : Nat} (hn : n < D.1) : (nki (D.2 n)).length ≤ 40 := by
  rw [hI.2.2.1 n hn]
  unfold kF
  refine Nat.le_trans (List.length_filter_le _ _) ?_
  rw [List.length_range]; exact hI.1.1
theorem e_childAt {t : List Nat} {D : dS} {S : md_S} (h : rE t D S) {n i N : Nat} (hn : n < D.1) (hi : i < 2 ^ 31) (hN : 161 ≤ N) : mo_childAt N (nI n) (nI i) S = some (oI (nki (D.2 n))[i]?, S) := by
  have h40 : D.1 ≤ 40 := h.2.1.2.1
  unfold mo_childAt mo_childAt_j14
  rw [if_pos (nI_pos' hi), e_foll h hn (Nat.le_refl _) (by omega) hN]
  simp only [md_bs]
  obtain ⟨⟨⟨g, hI⟩, _, _⟩, _, _⟩ := id h
  have hl := kids_len hI hn
  rw [← kidsB_0 hI hn] at hl ⊢
  rw [show (0 : Int32) = nI 0 from rfl]
  exact e_caL h hn N hN hi i N 0 (kidsB D n n) (by omega) ⟨n, Nat.le_refl _, by omega, rfl⟩ (by omega)
theorem e_childAtN {S : md_S} {x1 x2 : Int32} {N : Nat} (hi : x2 < 0) (hN : 161 ≤ N) : mo_childAt N x1 x2 S = some (-1, S) := by
  unfold mo_childAt mo_childAt_j14
  rw [if_neg (Int32.not_le.mpr hi)]
  obtain ⟨f, rfl⟩ : ∃ q, N = q + 1 := ⟨N - 1, by omega⟩
  rw [mo_childAt_l18]
  unfold mo_childAt_j42
  rw [if_pos (Int32.le_of_lt hi)]
