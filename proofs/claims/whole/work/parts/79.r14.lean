def dOf (d : Option (List Nat)) : dS := match d with
  | none => (0, fun _ => nR0)
  | some t => match pD t with
    | .inl D => D
    | .inr _ => (0, fun _ => nR0)
theorem rW_D {A : aS} {S : md_S} (h : rW A S) : S.1 10 = nI (dOf A.2.1).1 ∧ (dOf A.2.1).1 ≤ 40 ∧ ∀ n, n < (dOf A.2.1).1 → ∃ t, A.2.1 = some t ∧ tOk t ∧ rE t (dOf A.2.1) S := by
  obtain ⟨ty, doc, q, fd, pl⟩ := A
  have h2 : rDc doc S := h.2.1
  show S.1 10 = nI (dOf doc).1 ∧ (dOf doc).1 ≤ 40 ∧ ∀ n, n < (dOf doc).1 → ∃ t, doc = some t ∧ tOk t ∧ rE t (dOf doc) S
  cases doc with
  | none => exact ⟨h2.2.2, by simp [dOf], fun n hn => absurd hn (by simp [dOf])⟩
  | some t =>
    obtain ⟨a, b, c, D, e, k, g⟩ := h2
    have : dOf (some t) = D := by
      unfold dOf
      simp only [e]
    rw [this]
    exact ⟨g.1, g.2.1, fun n hn => ⟨t, rfl, c.2.2, pD_dW c.2.2 e, g, c⟩⟩
theorem rE.f {t : List Nat} {D : dS} {S S' : md_S} {K : List Nat} (h : rE t D S) (f : rF K S S') (hk : ∀ k, 10 ≤ k → k ≤ 21 → k ∉ K) : rE t D S' := ⟨h.1, h.2.1.f f (hk 10 (by omega) (by omega)) (fun k h1 h2 => hk k (by omega) (by omega)), h.2.2.f f (hk 11 (by omega) (by omega))⟩
/-- a number's node, if it is one -/
def nOf (D : dS) (x : Int32) : Option Nat := if x < 0 then none else if x.toNatClampNeg < D.1 then some x.toNatClampNeg else none
theorem nOf_s {D : dS} {x : Int32} {n : Nat} (h : nOf D x = some n) : x = nI n ∧ n < D.1 := by
  unfold nOf at h
  split at h
  · cases h
  next h1 =>
    split at h
    next h2 =>
      cases h
      obtain ⟨j, j1, j2⟩ := nI_of h1
      subst j2
      rw [nI_clamp j1] at h2 ⊢
      exact ⟨rfl, h2⟩
    · cases h
theorem nOf_i {D : dS} {n : Nat} (h : n < D.1) (h2 : n < 2 ^ 31) : nOf D (nI n) = some n := by
  unfold nOf
  rw [if_neg (nI_pos h2), nI_clamp h2, if_pos h]
theorem s1I {n : Nat} : (if (some n : Option Nat) = none then (0 : Int32) else 1) = 1 := if_neg (fun z => nomatch z)
theorem e_isNode {S : md_S} {D : dS} (h : S.1 10 = nI D.1) (h40 : D.1 ≤ 40) (x : Int32) : mo_isNode x S = some (if nOf D x = none then 0 else 1, md_p S 0 0) := by
  unfold mo_isNode mo_isNode_j21 mo_isNode_j22 nOf
  simp only [md_lx]
  have e10 : (md_p S 0 0).1 10 = nI D.1 := by rw [md_p1, if_neg (by decide)]; exact h
  rw [e10]
  by_cases h1 : x < 0
  · rw [if_pos h1, if_pos h1, if_pos (Or.inl rfl), if_pos rfl]
  · rw [if_neg h1, if_neg h1]
    obtain ⟨j, j1, rfl⟩ := nI_of h1
    rw [nI_clamp j1]
    by_cases h2 : j < D.1
    · rw [if_neg (nI_ge h2 (by omega)), if_pos h2, if_pos (Or.inr rfl), if_neg (fun z => nomatch z)]
    · rw [if_pos (nI_le (by omega) j1), if_neg h2, if_pos (Or.inl rfl), if_pos rfl]
theorem rW.t0 {A : aS} {S : md_S} (h : rW A S) : rW A (md_p S 0 0) := h.f (rF.rf.p (K := [0]) (by decide)) (fun k z => by simp at z; subst z; decide)
def aKind (A : aS) (x : Int32) : Int32 := match nOf (dOf A.2.1) x with
  | none => -1
  | some n => nkd ((dOf A.2.1).2 n)
def aOuter (A : aS) (x : Int32) : Int32 := match nOf (dOf A.2.1) x with
  | none => -1
  | some n => oI (nou ((dOf A.2.1).2 n))
def aSize (A : aS) (x : Int32) : Int32 := match nOf (dOf A.2.1) x with
  | none => 0
  | some n => nsz ((dOf A.2.1).2 n)
def aFound (A : aS) (x : Int32) : Int32 := if x < 0 then -1 else if x.toNatClampNeg < A.2.2.2.1.length then nI (lk A.2.2.2.1 x.toNatClampNeg) else -1
theorem e_kind {A : aS} {S : md_S} (h : rW A S) (x : Int32) : ∃ S', mo_kind x S = some (aKind A x, S') ∧ rW A S' := by
  obtain ⟨h1, h2, h3⟩ := rW_D h
  refine ⟨_, ?_, h.t0⟩
  unfold mo_kind mo_kind_j18 aKind
  rw [e_isNode h1 h2]
  simp only [md_bs]
  cases hn : nOf (dOf A.2.1) x with
  | none => rw [if_pos rfl, if_pos rfl]
  | some n =>
    obtain ⟨rfl, hn2⟩ := nOf_s hn
    obtain ⟨t, _, ht, hE⟩ := h3 n hn2
    have hr := (hE.2.1.2.2.1 n hn2).1
    rw [s1I, if_neg (show ¬ ((1 : Int32) = 0) by decide), if_pos (nI_in (show n < 41 by omega) (by omega)), nI_clamp (by omega)]
    show some (S.2 12 n, _) = _
    rw [hr]
theorem e_outer {A : aS} {S : md_S} (h : rW A S) (x : Int32) : ∃ S', mo_outer x S = some (aOuter A x, S') ∧ rW A S' := by
  obtain ⟨h1, h2, h3⟩ := rW_D h
  refine ⟨_, ?_, h.t0⟩
  unfold mo_outer mo_outer_j18 aOuter
  rw [e_isNode h1 h2]
  simp only [md_bs]
  cases hn : nOf (dOf A.2.1) x with
  | none => rw [if_pos rfl, if_pos rfl]
  | some n =>
    obtain ⟨rfl, hn2⟩ := nOf_s hn
    obtain ⟨t, _, ht, hE⟩ := h3 n hn2
    have hr := (hE.2.1.2.2.1 n hn2).2.1
    rw [s1I, if_neg (show ¬ ((1 : Int32) = 0) by decide), if_pos (nI_in (show n < 41 by omega) (by omega)), nI_clamp (by omega)]
    show some (S.2 13 n, _) = _
    rw [hr]
theorem e_size {A : aS} {S : md_S} {N : Nat} (h : rW A S) (hN : 161 ≤ N) (x : Int32) : ∃ S', mo_size N x S = some (aSize A x, S') ∧ rW A S' := by
  obtain ⟨h1, h2, h3⟩ := rW_D h
  refine ⟨_, ?_, h.t0⟩
  unfold mo_size mo_size_j30 mo_size_j44 aSize
  rw [e_isNode h1 h2]
  simp only [md_bs]
  cases hn : nOf (dOf A.2.1) x with
  | none => rw [if_pos rfl, if_pos rfl]
  | some n =>
    obtain ⟨rfl, hn2⟩ := nOf_s hn
    obtain ⟨t, _, ht, hE⟩ := h3 n hn2
    obtain ⟨⟨g, hI⟩, _, _⟩ := hE.1
    have hr := hE.2.1.2.2.1 n hn2
    rw [s1I, if_neg (show ¬ ((1 : Int32) = 0) by decide)]
    simp only [if_pos (nI_in (show n < 41 by omega) (by omega)), nI_clamp (show n < 2 ^ 31 by omega), md_p2, hr.1]
    by_cases e3 : nkd ((dOf A.2.1).2 n) = 3
    · rw [if_pos e3, hr.2.2.2.1 (Or.inl e3)]
    · rw [if_neg e3]
      by_cases e4 : nkd ((dOf A.2.1).2 n) = 4
      · rw [if_pos e4, hr.2.2.2.1 (Or.inr e4)]
      · rw [if_neg e4, e_children (hE.f (rF.rf.p (K := [0]) (by decide)) (fun k h1 h2 z => by simp at z; omega)) hn2 hN]
        simp only [md_bs]
        rw [hI.2.2.2.1 n hn2 ⟨e3, e4⟩]
theorem e_found {A : aS} {S : md_S} (h : rW A S) (x : Int32) : ∃ S', mo_found x S = some (aFound A x, S') ∧ rW A S' := by
  refine ⟨_, ?_, h.t0⟩
  obtain ⟨f1, f2, f3⟩ := h.2.2.2.1
  unfold mo_found mo_found_j26 mo_found_j27 aFound
  simp only [md_lx]
  have e82 : (md_p S 0 0).1 82 = nI A.2.2.2.1.length := by rw [md_p1, if_neg (by decide)]; exact f1
  rw [e82]
  by_cases h1 : x < 0
  · rw [if_pos h1, if_pos h1]
  · rw [if_neg h1, if_neg h1]
    obtain ⟨j, j1, rfl⟩ := nI_of h1
    simp only [nI_clamp j1]
    by_cases h2 : j < A.2.2.2.1.length
    · rw [if_neg (nI_ge h2 (by omega)), if_pos h2, if_pos (nI_in (show j < 300 by omega) (by omega))]
      show some (S.2 83 j, _) = _
      rw [f3 j h2]
    · rw [if_pos (nI_le (by omega) j1), if_neg h2]
theorem e_place {A : aS} {S : md_S} (h : rW A S) : ∃ S', mo_place S = some (A.2.2.2.2, S') ∧ rW A S' := by
  refine ⟨_, ?_, h.t0⟩
  unfold mo_place
  simp only [md_lx]
  rw [md_p1, if_neg (by decide), h.2.2.2.2]
def aChar (A : aS) (x i : Int32) : Int32 := match nOf (dOf A.2.1) x with
  | none => 0
  | some n => if nkd ((dOf A.2.1).2 n) = 4 ∧ ¬ i < 0 ∧ i.toNatClampNeg < (ntx ((dOf A.2.1).2 n)).length then nI (lk (ntx ((dOf A.2.1).2 n)) i.toNatClampNeg) else 0
theorem e_char {A : aS} {S : md_S} (h : rW A S) (x i : Int32) : ∃ S', mo_character x i S = some (aChar A x i, S') ∧ rW A S' := by
  obtain ⟨h1, h2, h3⟩ := rW_D h
  refine ⟨_, ?_, h.t0⟩
  unfold mo_character mo_character_j50 mo_character_j51 aChar
  rw [e_isNode h1 h2]
  simp only [md_bs]
  cases hn : nOf (dOf A.2.1) x with
  | none => rw [if_pos rfl, if_pos rfl]
  | some n =>
    obtain ⟨rfl, hn2⟩ := nOf_s hn
    obtain ⟨t, _, ht, hE⟩ := h3 n hn2
    obtain ⟨⟨g, hI⟩, _, _⟩ := hE.1
    have hr := hE.2.1.2.2.1 n hn2
    rw [s1I, if_neg (show ¬ ((1 : Int32) = 0) by decide)]
    simp only [if_pos (nI_in (show n < 41 by omega) (by omega)), nI_clamp (show n < 2 ^ 31 by omega), md_p2, hr.1]
    by_cases e4 : nkd ((dOf A.2.1).2 n) = 4
    · obtain ⟨y1, y2, y3, y4⟩ := hI.2.2.2.2.2.2.2.1 n hn2 e4
      have h160 := ht.1
      rw [if_pos e4, hr.2.2.2.1 (Or.inr e4), y2, hr.2.2.1]
      by_cases i0 : i < 0
      · rw [if_pos i0, if_neg (fun z => z.2.1 i0)]
      · rw [if_neg i0]
        obtain ⟨j, j1, rfl⟩ := nI_of i0
        rw [nI_clamp j1]
        by_cases j2 : j < (ntx ((dOf A.2.1).2 n)).length
        · have hc : nkd ((dOf A.2.1).2 n) = 4 ∧ ¬ nI j < 0 ∧ j < (ntx ((dOf A.2.1).2 n)).length := ⟨e4, i0, j2⟩
          rw [if_neg (nI_ge j2 (by omega)), if_pos hc, nI_1, nI_add]
          rw [if_pos (nI_in (show nbe ((dOf A.2.1).2 n) + 1 + j < 160 by omega) (by omega)), nI_clamp (by omega), hE.2.2.2.1 _ (by omega)]
          have : lk (ntx ((dOf A.2.1).2 n)) j = lk t (nbe ((dOf A.2.1).2 n) + 1 + j) := by rw [y1, sl_lk j2]
          rw [this]
        · rw [if_pos (nI_le (by omega) j1), if_neg (fun z => j2 z.2.2)]
    · rw [if_neg e4, if_neg (fun z => e4 z.1)]
/-! what a text or a path tells -/
def rTl (q : List Nat) (S : md_S) : Prop := S.1 84 = nI q.length ∧ q.length ≤ 400 ∧ ∀ j, j < q.length → S.2 85 j = nI (lk q j)
theorem e_tell {q : List Nat} {S : md_S} {c : Nat} (h : rTl q S) (hl : q.length < 400) (hc : c < 128) : ∃ S', mo_tell (nI c) S = some S' ∧ rTl (q ++ [c]) S' ∧ rF [84, 85] S S' := by
  unfold mo_tell
  rw [h.1]
  simp only [if_pos (nI_in hl (by omega)), nI_clamp (show q.length < 2 ^ 31 by omega), md_lx, md_w1]
  rw [byteI c hc, vnB c hc, h.1, nI_1]
  refine ⟨_, rfl, ⟨?_, by simp; omega, fun j hj => ?_⟩, (rF.rf.w (by decide)).p (by decide)⟩
  · rw [md_p1, if_pos rfl]; simp
  · show upd (S.2 85) q.length (nI c) j = _
    rw [lk_app]
    simp at hj
    by_cases e : j = q.length
    · rw [e, upd_s, if_neg (by omega), if_pos rfl]
    · rw [upd_n e, if_pos (by omega)]
      exact h.2.2 j (by omega)
/-- the letters of a text from a to b that aren't blanks outside strings -/
def txF (t : List Nat) : Nat → Nat → Bool → List Nat
  | 0, _, _ => []
  | m + 1, k, i => if (if lk t k = 34 then !i else i) = true ∨ lk t k ≠ 32 then lk t k :: txF t m (k + 1) (if lk t k = 34 then !i else i) else txF t m (k + 1) (if lk t k = 34 then !i else i)
def aAt (q : List Nat) (i : Int32) : Int32 := if i < 0 then 0 else if i.toNatClampNeg < q.length then nI (lk q i.toNatClampNeg) else 0
def aText (A : aS) (x i : Int32) : Int32 := match nOf (dOf A.2.1) x with
  | none => 0
  | some n => aAt (txF (A.2.1.getD []) (((nfi ((dOf A.2.1).2 n)).getD (0, 0)).1 - nbe ((dOf A.2.1).2 n)) (nbe ((dOf A.2.1).2 n)) false) i
theorem e_textL {t : List Nat} (ht : tOk t) {n e : Nat} {i : Int32} (N : Nat) (hn : n < 41) (he : e ≤ t.length) : ∀ (m f k : Nat) (b : Bool) (q : List Nat) (S : md_S), rA 11 t S → S.2 16 n = nI e → rTl q S → k + m = e → q.length ≤ k → m + 1 ≤ f → ∃ S', mo_text_l25 N f (nI n) i (if b = true then 1 else 0) (nI k) S = some (aAt (q ++ txF t m k b) i, S') ∧ rF [84, 85] S S' := by
  have h160 := ht.1
  intro m
  induction m with
  | zero =>
    intro f k b q S hA h16 hq hk hqk hf
    obtain ⟨f, rfl⟩ : ∃ q, f = q + 1 := ⟨f - 1, by omega⟩
    rw [mo_text_l25]
    simp only [if_pos (nI_in hn (by omega)), nI_clamp (show n < 2 ^ 31 by omega), h16]
    rw [if_pos (nI_le (by omega) (by omega)), txF, List.append_nil]
    unfold mo_text_j110 mo_text_j111 aAt
    refine ⟨S, ?_, rF.rf⟩
    by_cases i0 : i < 0
    · rw [if_pos i0, if_pos i0]
    · rw [if_neg i0, if_neg i0, hq.1]
      obtain ⟨j, j1, rfl⟩ := nI_of i0
      simp only [nI_clamp j1]
      by_cases j2 : j < q.length
      · rw [if_neg (nI_ge j2 (by omega)), if_pos j2, if_pos (nI_in (show j < 400 by omega) (by omega)), hq.2.2 j j2]
      · rw [if_pos (nI_le (by omega) j1), if_neg j2]
  | succ m ih =>
    intro f k b q S hA h16 hq hk hqk hf
    obtain ⟨f, rfl⟩ : ∃ q, f = q + 1 := ⟨f - 1, by omega⟩
    have hc := lk_126 ht k
    rw [mo_text_l25]
    simp only [if_pos (nI_in hn (by omega)), nI_clamp (show n < 2 ^ 31 by omega), h16, if_pos (nI_in (show k < 160 by omega) (by omega)), nI_clamp (show k < 2 ^ 31 by omega), hA.2.1 k (by omega)]
    rw [if_neg (nI_ge (by omega) (by omega)), nI_1]
    have c34 : (nI (lk t k) = 34) = (lk t k = 34) := propext (nI_eq (b := 34) (by omega) (by omega))
    have c32 : (nI (lk t k) = 32) = (lk t k = 32) := propext (nI_eq (b := 32) (by omega) (by omega))
    simp only [c34, c32]
    obtain ⟨S1, a1, a2, a3⟩ := e_tell (c := lk t k) hq (by omega) (by omega)
    have tl : ∀ (b' : Bool), ∃ S', (md_c (mo_tell (nI (lk t k)) S) fun S80 => mo_text_l25 N f (nI n) i (if b' = true then 1 else 0) (nI (k + 1)) S80) = some (aAt (q ++ (lk t k :: txF t m (k + 1) b')) i, S') ∧ rF [84, 85] S S' := fun b' => by
      rw [a1]
      simp only [md_cs]
      obtain ⟨S2, b1, b2⟩ := ih f (k + 1) b' (q ++ [lk t k]) S1 (hA.f a3 (by decide)) (by rw [(a3 16 (by decide)).2]; exact h16) a2 (by omega) (by simp; omega) (by omega)
      refine ⟨S2, ?_, a3.tr b2 (fun _ z => z) (fun _ z => z)⟩
      rw [b1, List.append_assoc]
      rfl
    have sk : ∀ (b' : Bool), ∃ S', mo_text_l25 N f (nI n) i (if b' = true then 1 else 0) (nI (k + 1)) S = some (aAt (q ++ txF t m (k + 1) b') i, S') ∧ rF [84, 85] S S' := fun b' => ih f (k + 1) b' q S hA h16 hq (by omega) (by omega) (by omega)
    rw [txF]
    by_cases q34 : lk t k = 34
    · have n32 : lk t k ≠ 32 := by omega
      simp only [if_pos q34]
      rw [if_pos (Or.inr n32)]
      cases b with
      | false =>
        rw [if_pos (by decide)]
        simp only [ite_self]
        exact tl true
      | true =>
        rw [if_neg (by decide), if_neg n32]
        exact tl false
    · simp only [if_neg q34]
      by_cases q32 : lk t k = 32
      · rw [if_pos q32]
        cases b with
        | false =>
          have hc : ¬ (false = true ∨ lk t k ≠ 32) := fun z => z.elim (fun y => nomatch y) (fun y => y q32)
          rw [if_pos (by decide), if_neg hc]
          exact sk false
        | true =>
          rw [if_neg (by decide), if_pos (Or.inl rfl)]
          exact tl true
      · rw [if_neg q32, if_pos (Or.inr q32)]
        exact tl b
theorem e_text {A : aS} {S : md_S} {N : Nat} (h : rW A S) (hN : 161 ≤ N) (x i : Int32) : ∃ S', mo_text N x i S = some (aText A x i, S') ∧ rW A S' := by
  obtain ⟨h1, h2, h3⟩ := rW_D h
  unfold mo_text aText
  rw [e_isNode h1 h2]
  simp only [md_bs]
  cases hn : nOf (dOf A.2.1) x with
  | none => rw [if_pos rfl, if_pos rfl]; exact ⟨_, rfl, h.t0⟩
  | some n =>
    obtain ⟨rfl, hn2⟩ := nOf_s hn
    obtain ⟨t, hA1, ht, hE⟩ := h3 n hn2
    have h160 := ht.1
    obtain ⟨e, a, x1, x2, x3, x4, x5, x6, x7, x8, x9⟩ := hE.last hn2
    have hr := hE.2.1.2.2.1 n hn2
    rw [s1I, if_neg (show ¬ ((1 : Int32) = 0) by decide)]
    simp only [if_pos (nI_in (show n < 41 by omega) (by omega)), nI_clamp (show n < 2 ^ 31 by omega), md_lx, md_p2, hr.2.2.1, x1]
    rw [show A.2.1.getD [] = t by rw [hA1]; rfl]
    have f0 : rF [0, 84] S (md_p (md_p S 0 0) 84 0) := (rF.rf.p (by decide)).p (by decide)
    obtain ⟨S', b1, b2⟩ := e_textL ht (n := n) (e := e) (i := i) N (by omega) x8 (e - nbe ((dOf A.2.1).2 n)) N (nbe ((dOf A.2.1).2 n)) false [] (md_p (md_p S 0 0) 84 0) (hE.2.2.f f0 (by decide)) x6 ⟨by rw [md_p1, if_pos rfl]; rfl, by simp, fun j hj => absurd hj (by simp)⟩ (by omega) (by simp) (by omega)
    refine ⟨S', b1, h.f (f0.tr b2 (K := [0, 84, 85]) (by decide) (by decide)) (fun k z => by simp at z; rcases z with rfl | rfl | rfl <;> decide)⟩
