/-! lists that are linked in arrays -/
def chn (X : Nat → Int32) : Int32 → List Nat → Prop
  | f, [] => f = -1
  | f, x :: r => f = nI x ∧ chn X (X x) r
theorem chn_c {X X' : Nat → Int32} : ∀ {l : List Nat} {f : Int32}, (∀ x, x ∈ l → X' x = X x) → chn X f l → chn X' f l
  | [], _, _, h => h
  | x :: r, f, e, h => ⟨h.1, by rw [e x (by simp)]; exact chn_c (fun y hy => e y (by simp [hy])) h.2⟩
theorem chn_app {X X' : Nat → Int32} {x s : Nat} : ∀ {l : List Nat} {f : Int32}, chn X f (l ++ [x]) → (∀ y, y ∈ l → X' y = X y) → X' x = nI s → X' s = -1 → chn X' f (l ++ [x] ++ [s])
  | [], f, h, _, h1, h2 => ⟨h.1, h1, h2⟩
  | y :: r, f, h, e, h1, h2 => ⟨h.1, by
      rw [e y (by simp)]
      exact chn_app h.2 (fun z hz => e z (by simp [hz])) h1 h2⟩
theorem nil_app {l : List Nat} : l = [] ∨ ∃ l' x, l = l' ++ [x] := by
  rcases List.eq_nil_or_concat l with z | ⟨l', x, z⟩
  · exact Or.inl z
  · exact Or.inr ⟨l', x, by rw [z, List.concat_eq_append]⟩
def rLs (X F L : Nat → Int32) (m n : Nat) (ls : Nat → List Nat) : Prop := ∀ a, a < m → chn X (F a) (ls a) ∧ (∀ x, (ls a).getLast? = some x → L a = nI x) ∧ (ls a).Pairwise (· < ·) ∧ (∀ x, x ∈ ls a → x < n) ∧ ∀ b, b < m → a ≠ b → ∀ x, x ∈ ls a → x ∉ ls b
def updL {α : Type} (f : Nat → α) (a : Nat) (l : α) : Nat → α := fun b => if b = a then l else f b
theorem updL_s {α : Type} {f : Nat → α} {a : Nat} {l : α} : updL f a l a = l := if_pos rfl
theorem updL_n {α : Type} {f : Nat → α} {a b : Nat} {l : α} (h : b ≠ a) : updL f a l b = f b := if_neg h
theorem rLs_new {X F L F' L' : Nat → Int32} {m n : Nat} {ls : Nat → List Nat} (h : rLs X F L m n ls) (hF : F' m = -1) (hF2 : ∀ a, a < m → F' a = F a) (hL : ∀ a, a < m → L' a = L a) : rLs X F' L' (m + 1) n (updL ls m []) := fun a ha => by
  by_cases e : a = m
  · subst e
    rw [updL_s, hF]
    exact ⟨rfl, fun x z => (nomatch z), List.Pairwise.nil, fun x z => (nomatch z), fun b _ _ x z => (nomatch z)⟩
  · obtain ⟨h1, h2, h3, h4, h5⟩ := h a (by omega)
    rw [updL_n e, hF2 a (by omega), hL a (by omega)]
    refine ⟨h1, h2, h3, h4, fun b hb hab x hx => ?_⟩
    by_cases e2 : b = m
    · rw [e2, updL_s]; exact fun z => nomatch z
    · rw [updL_n e2]; exact h5 b (by omega) hab x hx
theorem rLs_add {X F L X' F' L' : Nat → Int32} {m n a : Nat} {ls : Nat → List Nat} (h : rLs X F L m n ls) (ha : a < m)
    (hXn : X' n = -1) (hX0 : ls a = [] → ∀ y, y < n → X' y = X y) (hX1 : ∀ l x, ls a = l ++ [x] → X' x = nI n ∧ ∀ y, y < n → y ≠ x → X' y = X y)
    (hF0 : ls a = [] → F' a = nI n) (hF1 : ls a ≠ [] → F' a = F a) (hF2 : ∀ b, b < m → b ≠ a → F' b = F b) (hL : L' a = nI n) (hL2 : ∀ b, b < m → b ≠ a → L' b = L b) : rLs X' F' L' m (n + 1) (updL ls a (ls a ++ [n])) := fun b hb => by
  have ho := h a ha
  by_cases e : b = a
  · subst e
    rw [updL_s]
    refine ⟨?_, fun x hx => ?_, ?_, fun x hx => ?_, fun c hc hbc x hx => ?_⟩
    · rcases nil_app (l := ls b) with z | ⟨l, x, z⟩
      · rw [z]
        exact ⟨hF0 z, hXn⟩
      · have hx := hX1 l x z
        rw [hF1 (by rw [z]; simp)]
        have h1 := ho.1
        rw [z] at h1 ⊢
        have hp := ho.2.2.1
        rw [z] at hp
        have hlt := ho.2.2.2.1
        refine chn_app h1 (fun y hy => hx.2 y (hlt y (by rw [z]; simp [hy])) ?_) hx.1 hXn
        have := (List.pairwise_append.mp hp).2.2 y hy x (by simp)
        omega
    · rw [List.getLast?_concat] at hx
      cases hx
      exact hL
    · refine List.pairwise_append.mpr ⟨ho.2.2.1, List.pairwise_singleton _ _, fun x hx y hy => ?_⟩
      rw [List.mem_singleton.mp hy]
      exact ho.2.2.2.1 x hx
    · rcases List.mem_append.mp hx with z | z
      · have := ho.2.2.2.1 x z; omega
      · rw [List.mem_singleton.mp z]; omega
    · rw [updL_n (fun z => hbc z.symm)]
      rcases List.mem_append.mp hx with z | z
      · exact ho.2.2.2.2 c hc hbc x z
      · rw [List.mem_singleton.mp z]
        intro y
        have := (h c hc).2.2.2.1 n y
        omega
  · have hob := h b hb
    rw [updL_n e, hF2 b hb e, hL2 b hb e]
    refine ⟨chn_c (fun y hy => ?_) hob.1, hob.2.1, hob.2.2.1, fun x hx => Nat.lt_succ_of_lt (hob.2.2.2.1 x hx), fun c hc hbc x hx => ?_⟩
    · have hyn := hob.2.2.2.1 y hy
      rcases nil_app (l := ls a) with z | ⟨l, x, z⟩
      · exact hX0 z y hyn
      · refine (hX1 l x z).2 y hyn fun q => ?_
        refine ho.2.2.2.2 b hb (fun w => e w.symm) x (by rw [z]; simp) ?_
        rw [← q]; exact hy
    · by_cases e2 : c = a
      · subst e2
        rw [updL_s]
        intro y
        rcases List.mem_append.mp y with z | z
        · exact hob.2.2.2.2 c hc hbc x hx z
        · have h1 := List.mem_singleton.mp z
          have := hob.2.2.2.1 x hx
          omega
      · rw [updL_n e2]; exact hob.2.2.2.2 c hc hbc x hx
/-! the tables of a query: paths (begin, root), segments (below, path), selectors, conditions, ops; and the lists between them -/
abbrev cP : Type := Nat × (Nat → Nat × Bool) × (Nat → List Nat)
abbrev cG : Type := Nat × (Nat → Bool × Nat) × (Nat → List Nat)
abbrev cK : Type := Nat × (Nat → Int32 × Int32 × Int32 × Int32 × Int32)
abbrev cC : Type := Nat × (Nat → List Nat)
abbrev cO : Type := Nat × (Nat → Int32 × Int32 × Int32)
abbrev cQ : Type := cP × cG × cK × cC × cO
abbrev qp (Q : cQ) : cP := Q.1
abbrev qg (Q : cQ) : cG := Q.2.1
abbrev qk (Q : cQ) : cK := Q.2.2.1
abbrev qc (Q : cQ) : cC := Q.2.2.2.1
abbrev qo (Q : cQ) : cO := Q.2.2.2.2
def bI (b : Bool) : Int32 := if b = true then 1 else 0
def rC (Q : cQ) (S : md_S) : Prop :=
  (S.1 26 = nI (qp Q).1 ∧ S.1 27 = nI (qg Q).1 ∧ S.1 28 = nI (qk Q).1 ∧ S.1 29 = nI (qc Q).1 ∧ S.1 30 = nI (qo Q).1) ∧
  ((qp Q).1 ≤ 100 ∧ (qg Q).1 ≤ 170 ∧ (qk Q).1 ≤ 170 ∧ (qc Q).1 ≤ 50 ∧ (qo Q).1 ≤ 170) ∧
  (∀ a, a < (qp Q).1 → S.2 33 a = nI ((qp Q).2.1 a).1 ∧ S.2 36 a = bI ((qp Q).2.1 a).2) ∧
  (∀ a, a < (qg Q).1 → S.2 42 a = bI ((qg Q).2.1 a).1 ∧ S.2 41 a = nI ((qg Q).2.1 a).2 ∧ S.2 40 a = nI ((qg Q).2.2 a).length) ∧
  (∀ a, a < (qk Q).1 → S.2 43 a = ((qk Q).2 a).1 ∧ S.2 45 a = ((qk Q).2 a).2.1 ∧ S.2 46 a = ((qk Q).2 a).2.2.1 ∧ S.2 47 a = ((qk Q).2 a).2.2.2.1 ∧ S.2 48 a = ((qk Q).2 a).2.2.2.2) ∧
  (∀ a, a < (qo Q).1 → S.2 51 a = ((qo Q).2 a).1 ∧ S.2 52 a = ((qo Q).2 a).2.1 ∧ S.2 53 a = ((qo Q).2 a).2.2) ∧
  rLs (S.2 37) (S.2 34) (S.2 35) (qp Q).1 (qg Q).1 (qp Q).2.2 ∧ rLs (S.2 44) (S.2 38) (S.2 39) (qg Q).1 (qk Q).1 (qg Q).2.2 ∧ rLs (S.2 54) (S.2 49) (S.2 50) (qc Q).1 (qo Q).1 (qc Q).2
theorem rC.f {Q : cQ} {S S' : md_S} {K : List Nat} (h : rC Q S) (f : rF K S S') (hk : ∀ k, 26 ≤ k → k ≤ 54 → k ≠ 31 → k ≠ 32 → k ∉ K) : rC Q S' := by
  have e1 : ∀ k, 26 ≤ k → k ≤ 54 → k ≠ 31 → k ≠ 32 → S'.1 k = S.1 k := fun k a b c d => (f k (hk k a b c d)).1
  have e2 : ∀ k, 26 ≤ k → k ≤ 54 → k ≠ 31 → k ≠ 32 → S'.2 k = S.2 k := fun k a b c d => (f k (hk k a b c d)).2
  unfold rC
  rw [e1 26 (by omega) (by omega) (by omega) (by omega), e1 27 (by omega) (by omega) (by omega) (by omega), e1 28 (by omega) (by omega) (by omega) (by omega), e1 29 (by omega) (by omega) (by omega) (by omega), e1 30 (by omega) (by omega) (by omega) (by omega)]
  rw [e2 33 (by omega) (by omega) (by omega) (by omega), e2 34 (by omega) (by omega) (by omega) (by omega), e2 35 (by omega) (by omega) (by omega) (by omega), e2 36 (by omega) (by omega) (by omega) (by omega), e2 37 (by omega) (by omega) (by omega) (by omega), e2 38 (by omega) (by omega) (by omega) (by omega), e2 39 (by omega) (by omega) (by omega) (by omega), e2 40 (by omega) (by omega) (by omega) (by omega), e2 41 (by omega) (by omega) (by omega) (by omega), e2 42 (by omega) (by omega) (by omega) (by omega), e2 43 (by omega) (by omega) (by omega) (by omega), e2 44 (by omega) (by omega) (by omega) (by omega), e2 45 (by omega) (by omega) (by omega) (by omega), e2 46 (by omega) (by omega) (by omega) (by omega), e2 47 (by omega) (by omega) (by omega) (by omega), e2 48 (by omega) (by omega) (by omega) (by omega), e2 49 (by omega) (by omega) (by omega) (by omega), e2 50 (by omega) (by omega) (by omega) (by omega), e2 51 (by omega) (by omega) (by omega) (by omega), e2 52 (by omega) (by omega) (by omega) (by omega), e2 53 (by omega) (by omega) (by omega) (by omega), e2 54 (by omega) (by omega) (by omega) (by omega)]
  exact h
def nPath (Q : cQ) (be : Nat) (rt : Bool) : cQ := (((qp Q).1 + 1, updL (qp Q).2.1 (qp Q).1 (be, rt), updL (qp Q).2.2 (qp Q).1 []), Q.2)
def nSeg (Q : cQ) (a : Nat) (bw : Bool) : cQ := (((qp Q).1, (qp Q).2.1, updL (qp Q).2.2 a ((qp Q).2.2 a ++ [(qg Q).1])), ((qg Q).1 + 1, updL (qg Q).2.1 (qg Q).1 (bw, a), updL (qg Q).2.2 (qg Q).1 []), Q.2.2)
def nSel (Q : cQ) (s : Nat) (k : Int32 × Int32 × Int32 × Int32 × Int32) : cQ := (qp Q, ((qg Q).1, (qg Q).2.1, updL (qg Q).2.2 s ((qg Q).2.2 s ++ [(qk Q).1])), ((qk Q).1 + 1, updL (qk Q).2 (qk Q).1 k), Q.2.2.2)
def nCnd (Q : cQ) : cQ := (qp Q, qg Q, qk Q, ((qc Q).1 + 1, updL (qc Q).2 (qc Q).1 []), qo Q)
def nOp (Q : cQ) (c : Nat) (o : Int32 × Int32 × Int32) : cQ := (qp Q, qg Q, qk Q, ((qc Q).1, updL (qc Q).2 c ((qc Q).2 c ++ [(qo Q).1])), ((qo Q).1 + 1, updL (qo Q).2 (qo Q).1 o))
theorem vnB1 {b : Bool} : vp_nar .boolean (bI b) = bI b := by
  cases b
  · exact vnZ0
  · exact vnZ1
def KQ : List Nat := [6, 26, 27, 28, 29, 30, 33, 34, 35, 36, 37, 38, 39, 40, 41, 42, 43, 44, 45, 46, 47, 48, 49, 50, 51, 52, 53, 54]
theorem e_newPath {t : List Nat} {p : Nat} {Q : cQ} {S : md_S} {rt : Bool} (hT : rT t p S) (hC : rC Q S) (h : (qp Q).1 < 100) : ∃ S', mo_newPath (bI rt) S = some (nI (qp Q).1, S') ∧ rT t (p + 1) S' ∧ rC (nPath Q p rt) S' ∧ rF [6, 26, 33, 34, 35, 36] S S' := by
  obtain ⟨⟨a1, a2, a3, a4, a5⟩, ⟨b1, b2, b3, b4, b5⟩, c1, c2, c3, c4, d1, d2, d3⟩ := hC
  unfold mo_newPath
  simp only [a1, md_w1, md_lx, if_pos (nI_in h (by omega)), nI_clamp (show (qp Q).1 < 2 ^ 31 by omega), vnB1]
  obtain ⟨S', hS⟩ : ∃ S', S' = md_p (md_p (md_w (md_w (md_w (md_w S 33 (qp Q).1 (S.1 6)) 34 (qp Q).1 (-1)) 35 (qp Q).1 (-1)) 36 (qp Q).1 (bI rt)) 6 (S.1 6 + 1)) 26 (nI (qp Q).1 + 1) := ⟨_, rfl⟩
  have f : rF [6, 26, 33, 34, 35, 36] S S' := by
    rw [hS]
    exact (((((rF.rf.w (by decide)).w (by decide)).w (by decide)).w (by decide)).p (by decide)).p (by decide)
  have g26 : S'.1 26 = nI ((qp Q).1 + 1) := by rw [hS, md_p1, if_pos rfl, nI_1]
  have g33 : S'.2 33 = upd (S.2 33) (qp Q).1 (nI p) := by rw [hS, ← hT.2.1]; simp [md_w2, md_p2]
  have g34 : S'.2 34 = upd (S.2 34) (qp Q).1 (-1) := by rw [hS]; simp [md_w2, md_p2]
  have g36 : S'.2 36 = upd (S.2 36) (qp Q).1 (bI rt) := by rw [hS]; simp [md_w2, md_p2]
  have g35 : S'.2 35 = upd (S.2 35) (qp Q).1 (-1) := by rw [hS]; simp [md_w2, md_p2]
  refine ⟨S', ?_, ⟨hT.1.f f (by decide) (by decide), ?_, by rw [(f 7 (by decide)).1]; exact hT.2.2⟩, ⟨⟨g26, by rw [(f 27 (by decide)).1]; exact a2, by rw [(f 28 (by decide)).1]; exact a3, by rw [(f 29 (by decide)).1]; exact a4, by rw [(f 30 (by decide)).1]; exact a5⟩, ⟨h, b2, b3, b4, b5⟩, fun a ha => ?_, fun a ha => ?_, fun a ha => ?_, fun a ha => ?_, ?_, ?_, ?_⟩, f⟩
  · rw [hS]
    simp only [md_p1, if_true, (show (26 : Nat) ≠ 6 by decide), if_false, md_w1, a1]
    rw [nI_1, nI_pred]
  · rw [hS]
    simp only [md_p1, (show (6 : Nat) ≠ 26 by decide), if_false, if_true]
    rw [hT.2.1, nI_1]
  · rw [g33, g36]
    by_cases e : a = (qp Q).1
    · subst e
      rw [upd_s, upd_s]
      show nI p = nI (updL (qp Q).2.1 (qp Q).1 (p, rt) (qp Q).1).1 ∧ bI rt = bI (updL (qp Q).2.1 (qp Q).1 (p, rt) (qp Q).1).2
      rw [updL_s]; exact ⟨rfl, rfl⟩
    · rw [upd_n e, upd_n e]
      show S.2 33 a = nI (updL (qp Q).2.1 (qp Q).1 (p, rt) a).1 ∧ S.2 36 a = bI (updL (qp Q).2.1 (qp Q).1 (p, rt) a).2
      rw [updL_n e]
      exact c1 a (by have : a < (qp Q).1 + 1 := ha; omega)
  · rw [(f 42 (by decide)).2, (f 41 (by decide)).2, (f 40 (by decide)).2]; exact c2 a ha
  · rw [(f 43 (by decide)).2, (f 45 (by decide)).2, (f 46 (by decide)).2, (f 47 (by decide)).2, (f 48 (by decide)).2]; exact c3 a ha
  · rw [(f 51 (by decide)).2, (f 52 (by decide)).2, (f 53 (by decide)).2]; exact c4 a ha
  · rw [(f 37 (by decide)).2, g34, g35]
    exact rLs_new d1 upd_s (fun a ha => upd_n (by omega)) (fun a ha => upd_n (by omega))
  · rw [(f 44 (by decide)).2, (f 38 (by decide)).2, (f 39 (by decide)).2]; exact d2
  · rw [(f 54 (by decide)).2, (f 49 (by decide)).2, (f 50 (by decide)).2]; exact d3
