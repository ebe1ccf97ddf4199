def dgt (n : Nat) : List Nat := if 9 < n then [48 + n / 10, 48 + n % 10] else [48 + n % 10]
def stT (D : dS) (k : Nat) : List Nat := if nkd (D.2 ((nou (D.2 k)).getD 0)) = 6 then [91, 39] ++ nnm (D.2 k) ++ [39, 93] else [91] ++ dgt (npl (D.2 k)) ++ [93]
def nAf (D : dS) (k : Nat) : Nat := ((nfi (D.2 k)).getD (0, 0)).2
def pthF (D : dS) (n : Nat) : Nat → Nat → List Nat
  | 0, _ => []
  | m + 1, k => (if n < nAf D k then stT D k else []) ++ pthF D n m (k + 1)
def pthT (D : dS) (n : Nat) : List Nat := 36 :: pthF D n n 1
def aPath (A : aS) (x i : Int32) : Int32 := match nOf (dOf A.2.1) x with
  | none => 0
  | some n => aAt (pthT (dOf A.2.1) n) i
theorem e_tells {N : Nat} {q : List Nat} {S : md_S} {c : Nat} (h : rTl q S) (hl : q.length < 400) (hc : c < 128) {α : Type} (f : md_S → Option α) : ∃ S', md_c (mo_tell (nI c) S) f = f S' ∧ rTl (q ++ [c]) S' ∧ rF [84, 85] S S' := by
  obtain ⟨S', a, b, c⟩ := e_tell h hl hc
  exact ⟨S', by rw [a]; rfl, b, c⟩
theorem dI.nmlk {t : List Nat} (ht : tOk t) {g : Nat → Nat} {D : dS} (hI : dI t g D) {k : Nat} (hk : k < D.1) : (nnm (D.2 k)).length ≤ 8 ∧ ∀ j, lk (nnm (D.2 k)) j < 128 := by
  rcases (hI.2.2.2.2.2.2.2.2 k hk).2 with h | ⟨a, m, h1, h2, h3⟩
  · rw [h]; exact ⟨by simp, fun j => by simp [lk]⟩
  · rw [h3]
    refine ⟨by rw [sl_len h2]; exact h1, fun j => ?_⟩
    by_cases hj : j < m
    · rw [sl_lk hj]; have := lk_126 ht (a + j); omega
    · rw [lk_ge (by rw [sl_len h2]; omega)]; omega
theorem tk_s {q : List Nat} {k : Nat} (h : k < q.length) : q.take k ++ [lk q k] = q.take (k + 1) := by
  unfold lk
  rw [List.take_add_one, List.getD_eq_getElem?_getD, List.getElem?_eq_getElem h]
  rfl
/-- a name's letters -/
theorem e_nmL {t : List Nat} (ht : tOk t) {D : dS} {k : Nat} (N : Nat) (hk : k < D.1) : ∀ (m f j : Nat) (q : List Nat) (S : md_S), rE t D S → rTl q S → j + m = (nnm (D.2 k)).length → q.length + m + 2 ≤ 400 → m + 1 ≤ f → ∃ S', mo_tellStep_l30 N f (nI k) (nI j) S = some S' ∧ rTl (q ++ (nnm (D.2 k)).drop j ++ [39, 93]) S' ∧ rF [84, 85] S S' := by
  intro m
  induction m with
  | zero =>
    intro f j q S hE hq hj hl hf
    obtain ⟨f, rfl⟩ : ∃ q, f = q + 1 := ⟨f - 1, by omega⟩
    have h40 := hE.2.1.2.1
    obtain ⟨⟨g, hI⟩, _, _⟩ := hE.1
    have hn := hI.nmlk ht hk
    have hr := (hE.2.1.2.2.1 k hk).2.2.2.2.1
    rw [mo_tellStep_l30]
    simp only [if_pos (nI_in (show k < 41 by omega) (by omega)), nI_clamp (show k < 2 ^ 31 by omega), hr.len.1]
    rw [if_pos (nI_le (by omega) (by omega)), show (39 : Int32) = nI 39 from rfl]
    obtain ⟨S1, a1, a2, a3⟩ := e_tell (c := 39) hq (by omega) (by omega)
    rw [a1]
    simp only [md_cs]
    unfold mo_tellStep_j145
    obtain ⟨S2, b1, b2, b3⟩ := e_tell (c := 93) a2 (by simp; omega) (by omega)
    rw [show (93 : Int32) = nI 93 from rfl, b1]
    refine ⟨S2, rfl, ?_, a3.tr b3 (fun _ z => z) (fun _ z => z)⟩
    rw [List.drop_eq_nil_of_le (by omega), List.append_nil]
    simpa using b2
  | succ m ih =>
    intro f j q S hE hq hj hl hf
    obtain ⟨f, rfl⟩ : ∃ q, f = q + 1 := ⟨f - 1, by omega⟩
    have h40 := hE.2.1.2.1
    obtain ⟨⟨g, hI⟩, _, _⟩ := hE.1
    have hn := hI.nmlk ht hk
    have hr := (hE.2.1.2.2.1 k hk).2.2.2.2.1
    obtain ⟨c1, c2, c3⟩ := hr.ch hE.2.2 (j := j) (by omega)
    rw [mo_tellStep_l30]
    simp only [if_pos (nI_in (show k < 41 by omega) (by omega)), nI_clamp (show k < 2 ^ 31 by omega), hr.len.1]
    rw [if_neg (nI_ge (by omega) (by omega)), if_pos c1, c2]
    obtain ⟨S1, a1, a2, a3⟩ := e_tell (c := lk (nnm (D.2 k)) j) hq (by omega) (hn.2 j)
    rw [a1]
    simp only [md_cs]
    rw [nI_1]
    obtain ⟨S2, b1, b2, b3⟩ := ih f (j + 1) (q ++ [lk (nnm (D.2 k)) j]) S1 (hE.f a3 (fun k h1 h2 z => by simp at z; omega)) a2 (by omega) (by simp; omega) (by omega)
    refine ⟨S2, b1, ?_, a3.tr b3 (fun _ z => z) (fun _ z => z)⟩
    have : (nnm (D.2 k)).drop j = lk (nnm (D.2 k)) j :: (nnm (D.2 k)).drop (j + 1) := by
      unfold lk
      rw [List.getD_eq_getElem?_getD, List.getElem?_eq_getElem (by omega)]
      exact List.drop_eq_getElem_cons (by omega)
    rw [this]
    simpa using b2
theorem nI_d10 {n : Nat} (h : n < 1000) : nI n / 10 = nI (n / 10) ∧ nI n - nI n / 10 * 10 = nI (n % 10) := ⟨pk_div (d := 10) (by omega) (by omega) (by omega), pk_rem (d := 10) (by omega) (by omega) (by omega)⟩
/-- a place's letters -/
theorem e_plL {t : List Nat} {D : dS} {k o : Nat} (N : Nat) (hk : k < D.1) (ho : nou (D.2 k) = some o) : ∀ (m f j c : Nat) (q : List Nat) (S : md_S), rE t D S → rTl q S → o < j → j + m = k → c = (kF D o j).length → q.length + 4 ≤ 400 → m + 1 ≤ f → ∃ S', mo_tellStep_l83 N f (nI k) (nI c) (nI j) S = some S' ∧ rTl (q ++ dgt (kF D o k).length ++ [93]) S' ∧ rF [84, 85] S S' := by
  intro m
  induction m with
  | zero =>
    intro f j c q S hE hq hoj hj hc hl hf
    obtain ⟨f, rfl⟩ : ∃ q, f = q + 1 := ⟨f - 1, by omega⟩
    have h40 := hE.2.1.2.1
    have hjk : j = k := by omega
    subst hjk
    have hcl : c ≤ 40 := by
      rw [hc]
      unfold kF
      refine Nat.le_trans (List.length_filter_le _ _) ?_
      rw [List.length_range]; omega
    rw [← hc]
    rw [mo_tellStep_l83, if_pos (nI_le (Nat.le_refl _) (by omega))]
    have fin : ∀ (q : List Nat) (S : md_S), rTl q S → q.length + 2 ≤ 400 → ∃ S', mo_tellStep_j134 N (nI c) S = some S' ∧ rTl (q ++ [48 + c % 10] ++ [93]) S' ∧ rF [84, 85] S S' := fun q S hq hl => by
      unfold mo_tellStep_j134 mo_tellStep_j145
      rw [(nI_d10 (n := c) (by omega)).2, show (48 : Int32) = nI 48 from rfl, nI_add]
      obtain ⟨S1, a1, a2, a3⟩ := e_tell (c := 48 + c % 10) hq (by omega) (by omega)
      rw [a1]
      simp only [md_cs]
      obtain ⟨S2, b1, b2, b3⟩ := e_tell (c := 93) a2 (by simp; omega) (by omega)
      rw [show (93 : Int32) = nI 93 from rfl, b1]
      exact ⟨S2, rfl, b2, a3.tr b3 (fun _ z => z) (fun _ z => z)⟩
    unfold dgt
    by_cases h9 : 9 < c
    · rw [if_neg (show ¬ nI c ≤ 9 from nI_ge (a := 9) h9 (by omega)), if_pos h9, (nI_d10 (n := c) (by omega)).1, show (48 : Int32) = nI 48 from rfl, nI_add]
      obtain ⟨S1, a1, a2, a3⟩ := e_tell (c := 48 + c / 10) hq (by omega) (by omega)
      rw [a1]
      simp only [md_cs]
      obtain ⟨S2, b1, b2, b3⟩ := fin _ S1 a2 (by simp; omega)
      refine ⟨S2, b1, ?_, a3.tr b3 (fun _ z => z) (fun _ z => z)⟩
      simpa using b2
    · rw [if_pos (show nI c ≤ 9 from nI_le (b := 9) (by omega) (by omega)), if_neg h9]
      exact fin q S hq (by omega)
  | succ m ih =>
    intro f j c q S hE hq hoj hj hc hl hf
    obtain ⟨f, rfl⟩ : ∃ q, f = q + 1 := ⟨f - 1, by omega⟩
    have h40 := hE.2.1.2.1
    obtain ⟨⟨g, hI⟩, _, _⟩ := hE.1
    have hrk := (hE.2.1.2.2.1 k hk).2.1
    have hrj := (hE.2.1.2.2.1 j (by omega)).2.1
    rw [mo_tellStep_l83, if_neg (nI_ge (by omega) (by omega))]
    simp only [if_pos (nI_in (show k < 41 by omega) (by omega)), nI_clamp (show k < 2 ^ 31 by omega), if_pos (nI_in (show j < 41 by omega) (by omega)), nI_clamp (show j < 2 ^ 31 by omega), hrk, hrj, ho]
    have heq : (oI (nou (D.2 j)) = oI (some o)) = (nou (D.2 j) = some o) := oI_eq hI (show o < D.1 by omega) (by omega)
    simp only [heq]
    rw [nI_1]
    by_cases e : nou (D.2 j) = some o
    · rw [if_pos e, nI_1]
      exact ih f (j + 1) (c + 1) q S hE hq (by omega) (by omega) (by rw [kF_s, if_pos e, hc]; simp) hl (by omega)
    · rw [if_neg e, Int32.add_zero, nI_1]
      exact ih f (j + 1) c q S hE hq (by omega) (by omega) (by rw [kF_s, if_neg e, hc]; simp) hl (by omega)
theorem dgt_len {n : Nat} : (dgt n).length ≤ 2 := by
  unfold dgt
  split <;> simp
theorem stT_len {t : List Nat} (ht : tOk t) {g : Nat → Nat} {D : dS} (hI : dI t g D) {k : Nat} (hk : k < D.1) : (stT D k).length ≤ 12 := by
  unfold stT
  have h1 := (hI.nmlk ht hk).1
  have h2 := dgt_len (n := npl (D.2 k))
  split
  · simp; omega
  · simp; omega
theorem e_tellStep {t : List Nat} (ht : tOk t) {D : dS} {k N : Nat} {q : List Nat} {S : md_S} (hN : 161 ≤ N) (hk : k < D.1) (h0 : 0 < k) (hE : rE t D S) (hq : rTl q S) (hl : q.length + 12 ≤ 400) : ∃ S', mo_tellStep N (nI k) S = some S' ∧ rTl (q ++ stT D k) S' ∧ rF [84, 85] S S' := by
  have h40 := hE.2.1.2.1
  obtain ⟨⟨g, hI⟩, hp, hf⟩ := hE.1
  cases ho : nou (D.2 k) with
  | none => exact absurd ((hf k hk).2 ho) (by omega)
  | some o =>
    have hok := hI.2.1 k hk o ho
    unfold mo_tellStep stT
    obtain ⟨S1, a1, a2, a3⟩ := e_tell (c := 91) hq (by omega) (by omega)
    rw [show (91 : Int32) = nI 91 from rfl, a1]
    simp only [md_cs]
    have hE1 : rE t D S1 := hE.f a3 (fun k h1 h2 z => by simp at z; omega)
    have hr1 := (hE1.2.1.2.2.1 k hk).2.1
    rw [ho] at hr1
    have hr2 := (hE1.2.1.2.2.1 o (by omega)).1
    simp only [if_pos (nI_in (show k < 41 by omega) (by omega)), nI_clamp (show k < 2 ^ 31 by omega), hr1, ho, Option.getD_some]
    have hin : md_in (oI (some o)) 41 := nI_in (show o < 41 by omega) (by omega)
    have hcl : (oI (some o)).toNatClampNeg = o := nI_clamp (by omega)
    simp only [if_pos hin, hcl, hr2]
    by_cases e6 : nkd (D.2 o) = 6
    · rw [if_pos e6, if_pos e6]
      obtain ⟨S2, b1, b2, b3⟩ := e_tell (c := 39) a2 (by simp; omega) (by omega)
      rw [show (39 : Int32) = nI 39 from rfl, b1]
      simp only [md_cs]
      have hn := (hI.nmlk ht hk).1
      obtain ⟨S3, c1, c2, c3⟩ := e_nmL ht N hk (nnm (D.2 k)).length N 0 (q ++ [91] ++ [39]) S2 (hE1.f b3 (fun k h1 h2 z => by simp at z; omega)) b2 (by omega) (by simp; omega) (by omega)
      refine ⟨S3, c1, ?_, (a3.tr b3 (fun _ z => z) (fun _ z => z)).tr c3 (fun _ z => z) (fun _ z => z)⟩
      simpa using c2
    · rw [if_neg e6, if_neg e6]
      have e1 : oI (some o) + 1 = nI (o + 1) := nI_1 o
      rw [e1]
      have hz : (kF D o (o + 1)).length = 0 := by
        have : kF D o (o + 1) = [] := by
          refine List.eq_nil_iff_forall_not_mem.mpr fun j hj => ?_
          have h1 := kF_m.mp hj
          have := (hI.2.1 j (by omega) o h1.2).1
          omega
        rw [this]; rfl
      obtain ⟨S3, c1, c2, c3⟩ := e_plL N hk ho (k - (o + 1)) N (o + 1) 0 (q ++ [91]) S1 hE1 a2 (by omega) (by omega) hz.symm (by simp; omega) (by omega)
      refine ⟨S3, c1, ?_, a3.tr c3 (fun _ z => z) (fun _ z => z)⟩
      rw [hI.2.2.2.2.1 k o hk ho]
      simpa using c2
/-- how many steps are told: each lies deeper than the one before it -/
theorem e_pathL {t : List Nat} (ht : tOk t) {D : dS} {n : Nat} {i : Int32} (N : Nat) (hN : 161 ≤ N) (hn : n < D.1) {g : Nat → Nat} (hI : dI t g D) : ∀ (m f k d : Nat) (q : List Nat) (S : md_S), rE t D S → rTl q S → 0 < k → k + m = n + 1 → q.length ≤ 1 + 12 * d → (∀ j, k ≤ j → j ≤ n → d < g j) → m + 1 ≤ f → ∃ S', mo_path_l23 N f (nI n) i (nI k) S = some (aAt (q ++ pthF D n m k) i, S') ∧ rF [84, 85] S S' := by
  have h40 := hI.1.1
  intro m
  induction m with
  | zero =>
    intro f k d q S hE hq h0 hk hl hd hf
    obtain ⟨f, rfl⟩ : ∃ q, f = q + 1 := ⟨f - 1, by omega⟩
    rw [mo_path_l23, if_pos (nI_lt (by omega) (by omega)), pthF, List.append_nil]
    unfold mo_path_j70 mo_path_j71 aAt
    refine ⟨S, ?_, rF.rf⟩
    have hq4 := hq.2.1
    by_cases i0 : i < 0
    · rw [if_pos i0, if_pos i0]
    · rw [if_neg i0, if_neg i0, hq.1]
      obtain ⟨j, j1, rfl⟩ := nI_of i0
      simp only [nI_clamp j1]
      by_cases j2 : j < q.length
      · rw [if_neg (nI_ge j2 (by omega)), if_pos j2, if_pos (nI_in (show j < 400 by omega) (by omega)), hq.2.2 j j2]
      · rw [if_pos (nI_le (by omega) j1), if_neg j2]
  | succ m ih =>
    intro f k d q S hE hq h0 hk hl hd hf
    obtain ⟨f, rfl⟩ : ∃ q, f = q + 1 := ⟨f - 1, by omega⟩
    obtain ⟨e, a, x1, x2, x3, x4, x5, x6, x7, x8, x9⟩ := hE.last (show k < D.1 by omega)
    have hx6 := (hI.2.2.2.2.2.1 k e a (by omega) x1).2.2.2.2.2
    have haf : nAf D k = a := by unfold nAf; rw [x1]; rfl
    rw [mo_path_l23, if_neg (nI_nlt (by omega) (by omega))]
    simp only [if_pos (nI_in (show k < 41 by omega) (by omega)), nI_clamp (show k < 2 ^ 31 by omega), x5]
    rw [pthF, haf, nI_1]
    by_cases e1 : n < a
    · rw [if_neg (nI_nlt (by omega) (by omega)), if_pos e1]
      have hgk := hd k (Nat.le_refl _) (by omega)
      have hg6 := hI.1.2 k (by omega)
      obtain ⟨S1, b1, b2, b3⟩ := e_tellStep ht hN (show k < D.1 by omega) h0 hE hq (by omega)
      rw [b1]
      simp only [md_cs]
      have hsl := stT_len ht hI (show k < D.1 by omega)
      obtain ⟨S2, c1, c2⟩ := ih f (k + 1) (g k) (q ++ stT D k) S1 (hE.f b3 (fun k h1 h2 z => by simp at z; omega)) b2 (by omega) (by omega) (by
        rw [List.length_append]
        have : 12 * (d + 1) ≤ 12 * g k := Nat.mul_le_mul_left 12 hgk
        omega) (fun j h1 h2 => hx6 j (by omega) (by omega)) (by omega)
      refine ⟨S2, ?_, b3.tr c2 (fun _ z => z) (fun _ z => z)⟩
      rw [c1, List.append_assoc]
    · rw [if_pos (nI_lt (by omega) (by omega)), if_neg e1, List.nil_append]
      exact ih f (k + 1) d q S hE hq (by omega) (by omega) hl (fun j h1 h2 => hd j (by omega) h2) (by omega)
theorem e_path {A : aS} {S : md_S} {N : Nat} (h : rW A S) (hN : 161 ≤ N) (x i : Int32) : ∃ S', mo_path N x i S = some (aPath A x i, S') ∧ rW A S' := by
  obtain ⟨h1, h2, h3⟩ := rW_D h
  unfold mo_path aPath
  rw [e_isNode h1 h2]
  simp only [md_bs]
  cases hn : nOf (dOf A.2.1) x with
  | none => rw [if_pos rfl, if_pos rfl]; exact ⟨_, rfl, h.t0⟩
  | some n =>
    obtain ⟨rfl, hn2⟩ := nOf_s hn
    obtain ⟨t, hA1, ht, hE⟩ := h3 n hn2
    obtain ⟨⟨g, hI⟩, h0, hf⟩ := hE.1
    rw [s1I, if_neg (show ¬ ((1 : Int32) = 0) by decide)]
    simp only [md_lx]
    have f0 : rF [0, 84] S (md_p (md_p S 0 0) 84 0) := (rF.rf.p (by decide)).p (by decide)
    obtain ⟨S1, a1, a2, a3⟩ := e_tell (c := 36) (q := []) (S := md_p (md_p S 0 0) 84 0) ⟨by rw [md_p1, if_pos rfl]; rfl, by simp, fun j hj => absurd hj (by simp)⟩ (by simp) (by omega)
    rw [show (36 : Int32) = nI 36 from rfl, a1]
    simp only [md_cs]
    have f1 : rF [0, 84, 85] S S1 := f0.tr a3 (by decide) (by decide)
    rw [show (1 : Int32) = nI 1 from rfl]
    obtain ⟨S2, b1, b2⟩ := e_pathL ht (i := i) N hN hn2 hI n N 1 0 [36] S1 (hE.f f1 (fun k h1 h2 z => by simp at z; omega)) a2 (by omega) (by omega) (by simp) (fun j h1 h2 => by
      cases ho : nou ((dOf A.2.1).2 j) with
      | none => have := (hf j (by omega)).2 ho; omega
      | some o => have := (hI.2.1 j (by omega) o ho).2.2; omega) (by omega)
    exact ⟨S2, b1, h.f (f1.tr b2 (fun _ z => z) (by decide)) (fun k z => by simp at z; rcases z with rfl | rfl | rfl <;> decide)⟩
