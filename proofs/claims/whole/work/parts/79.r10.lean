theorem e_takeL {t : List Nat} (ht : tOk t) {x : Nat} (hx : md_k x = some (0, 160)) (h4 : x ≠ 4) (N : Nat) : ∀ (m n k : Nat) (S : md_S), (∀ j, j < t.length → S.2 x j = nI (lk t j)) → (∀ j, j < k → S.2 4 j = nI (lk t j)) → k + m = t.length → m + 1 ≤ n → ∃ S', mo_take_l2 N n x (nI t.length) (nI k) S = some S' ∧ rT t 0 S' ∧ rF [4, 5, 6, 7] S S' := by
  have h160 := ht.1
  intro m
  induction m with
  | zero =>
    intro n k S h1 h2 hk hn
    obtain ⟨n, rfl⟩ : ∃ q, n = q + 1 := ⟨n - 1, by omega⟩
    rw [mo_take_l2, if_pos (nI_le (by omega) (by omega))]
    simp only [md_lx]
    refine ⟨_, rfl, ⟨⟨?_, fun j hj => h2 j (by omega)⟩, ?_, ?_⟩, ((rF.rf.p (by decide)).p (by decide)).p (by decide)⟩
    · simp [md_p1]
    · simp [md_p1]; rfl
    · simp [md_p1]
  | succ m ih =>
    intro n k S h1 h2 hk hn
    obtain ⟨n, rfl⟩ : ∃ q, n = q + 1 := ⟨n - 1, by omega⟩
    have hc := lk_126 ht k
    rw [mo_take_l2, if_neg (nI_ge (by omega) (by omega)), if_pos hx]
    simp only [if_pos (nI_in (show k < 160 by omega) (by omega)), nI_clamp (show k < 2 ^ 31 by omega), md_lx]
    rw [h1 k (by omega), vnB _ (by omega), nI_1]
    obtain ⟨S', a, b, c⟩ := ih n (k + 1) (md_w S 4 k (nI (lk t k))) (fun j hj => by rw [md_w2, if_neg h4]; exact h1 j hj) (fun j hj => by
      rw [md_w2, if_pos rfl]
      by_cases e : j = k
      · rw [e, upd_s]
      · rw [upd_n e]; exact h2 j (by omega)) (by omega) (by omega)
    exact ⟨S', a, b, (rF.rf.w (by decide)).tr c (fun _ z => z) (fun _ z => z)⟩
theorem e_take {t : List Nat} {x N : Nat} {S : md_S} (h : rA x t S) (h4 : x ≠ 4) (hN : 161 ≤ N) : ∃ S', mo_take N x (nI t.length) S = some S' ∧ rT t 0 S' ∧ rF [4, 5, 6, 7] S S' := by
  have h160 := h.2.2.1
  exact e_takeL h.2.2 h.1 h4 N t.length N 0 S h.2.1 (fun j hj => absurd hj (by omega)) (by omega) (by omega)
/-! what a run of calls knows: typed text, document's text, query's text, what was found, place -/
def rTy (ty : List Nat) (S : md_S) : Prop := S.1 2 = nI ty.length ∧ rA 1 ty S
def rDc (doc : Option (List Nat)) (S : md_S) : Prop := match doc with
  | none => S.1 8 = 0 ∧ S.1 9 = 0 ∧ S.1 10 = 0
  | some t => S.1 8 = 1 ∧ S.1 9 = nI t.length ∧ rA 11 t S ∧ ∃ D, pD t = .inl D ∧ dK D ∧ rD t D [] S
def rQy (q : Option (List Nat)) (S : md_S) : Prop := match q with
  | none => S.1 24 = 0
  | some t => S.1 24 = 1 ∧ S.1 25 = nI t.length ∧ rA 32 t S
def rFd (fd : List Nat) (S : md_S) : Prop := S.1 82 = nI fd.length ∧ fd.length ≤ 300 ∧ ∀ j, j < fd.length → S.2 83 j = nI (lk fd j)
abbrev aS : Type := List Nat × Option (List Nat) × Option (List Nat) × List Nat × Int32
def rW (A : aS) (S : md_S) : Prop := rTy A.1 S ∧ rDc A.2.1 S ∧ rQy A.2.2.1 S ∧ rFd A.2.2.2.1 S ∧ S.1 3 = A.2.2.2.2
theorem rA.f {x : Nat} {t : List Nat} {S S' : md_S} {K : List Nat} (h : rA x t S) (f : rF K S S') (hx : x ∉ K) : rA x t S' := ⟨h.1, fun j hj => by rw [(f x hx).2]; exact h.2.1 j hj, h.2.2⟩
theorem rTy.f {t : List Nat} {S S' : md_S} {K : List Nat} (h : rTy t S) (f : rF K S S') (h1 : 1 ∉ K) (h2 : 2 ∉ K) : rTy t S' := ⟨by rw [(f 2 h2).1]; exact h.1, h.2.f f h1⟩
theorem rDc.f {d : Option (List Nat)} {S S' : md_S} {K : List Nat} (h : rDc d S) (f : rF K S S') (hk : ∀ k, 8 ≤ k → k ≤ 21 → k ∉ K) : rDc d S' := by
  cases d with
  | none => exact ⟨by rw [(f 8 (hk 8 (by omega) (by omega))).1]; exact h.1, by rw [(f 9 (hk 9 (by omega) (by omega))).1]; exact h.2.1, by rw [(f 10 (hk 10 (by omega) (by omega))).1]; exact h.2.2⟩
  | some t =>
    obtain ⟨a, b, c, D, e, k, g⟩ := h
    exact ⟨by rw [(f 8 (hk 8 (by omega) (by omega))).1]; exact a, by rw [(f 9 (hk 9 (by omega) (by omega))).1]; exact b, c.f f (hk 11 (by omega) (by omega)), D, e, k, g.f f (hk 10 (by omega) (by omega)) (fun k h1 h2 => hk k (by omega) (by omega))⟩
theorem rQy.f {d : Option (List Nat)} {S S' : md_S} {K : List Nat} (h : rQy d S) (f : rF K S S') (h1 : 24 ∉ K) (h2 : 25 ∉ K) (h3 : 32 ∉ K) : rQy d S' := by
  cases d with
  | none => exact (f 24 h1).1.trans h
  | some t => exact ⟨by rw [(f 24 h1).1]; exact h.1, by rw [(f 25 h2).1]; exact h.2.1, h.2.2.f f h3⟩
theorem rFd.f {t : List Nat} {S S' : md_S} {K : List Nat} (h : rFd t S) (f : rF K S S') (h1 : 82 ∉ K) (h2 : 83 ∉ K) : rFd t S' := ⟨by rw [(f 82 h1).1]; exact h.1, h.2.1, fun j hj => by rw [(f 83 h2).2]; exact h.2.2 j hj⟩
theorem rW.f {A : aS} {S S' : md_S} {K : List Nat} (h : rW A S) (f : rF K S S') (hk : ∀ k, k ∈ K → (k ≠ 1 ∧ k ≠ 2 ∧ k ≠ 3 ∧ ¬ (8 ≤ k ∧ k ≤ 21) ∧ k ≠ 24 ∧ k ≠ 25 ∧ k ≠ 32 ∧ k ≠ 82 ∧ k ≠ 83)) : rW A S' := by
  obtain ⟨a, b, c, d, e⟩ := h
  exact ⟨a.f f (fun z => (hk _ z).1 rfl) (fun z => (hk _ z).2.1 rfl), b.f f (fun k h1 h2 z => (hk _ z).2.2.2.1 ⟨h1, h2⟩), c.f f (fun z => (hk _ z).2.2.2.2.1 rfl) (fun z => (hk _ z).2.2.2.2.2.1 rfl) (fun z => (hk _ z).2.2.2.2.2.2.1 rfl), d.f f (fun z => (hk _ z).2.2.2.2.2.2.2.1 rfl) (fun z => (hk _ z).2.2.2.2.2.2.2.2 rfl), by rw [(f 3 (fun z => (hk _ z).2.2.1 rfl)).1]; exact e⟩
theorem rA_nil {x : Nat} {S : md_S} (hx : md_k x = some (0, 160)) : rA x [] S := ⟨hx, fun j hj => absurd hj (by simp), by simp, fun j hj => absurd hj (by simp)⟩
def KT : List Nat := [2, 3, 4, 5] ++ KD
theorem rsL_w {t : List Nat} {qt br b : Nat} : ∀ {k p w : Nat}, rsL t qt br b k p = .inr w → True := fun _ => trivial
theorem e_docL {t : List Nat} (ht : tOk t) (N : Nat) : ∀ (m n k : Nat) (S : md_S), (∀ j, j < t.length → S.2 4 j = nI (lk t j)) → (∀ j, j < k → S.2 11 j = nI (lk t j)) → k + m = t.length → m + 1 ≤ n → ∃ S', mo_document_l59 N n (nI t.length) (nI k) S = some (S.1 10, S') ∧ S'.1 8 = 1 ∧ S'.1 9 = nI t.length ∧ S'.1 82 = 0 ∧ rA 11 t S' ∧ rF [8, 9, 11, 82] S S' := by
  have h160 := ht.1
  intro m
  induction m with
  | zero =>
    intro n k S h1 h2 hk hn
    obtain ⟨n, rfl⟩ : ∃ q, n = q + 1 := ⟨n - 1, by omega⟩
    rw [mo_document_l59, if_pos (nI_le (by omega) (by omega))]
    simp only [md_lx]
    refine ⟨md_p (md_p (md_p S 9 (nI t.length)) 8 1) 82 0, by simp [md_p1], by simp [md_p1], by simp [md_p1], by simp [md_p1], ⟨by decide +kernel, fun j hj => h2 j (by omega), ht⟩, ((rF.rf.p (by decide)).p (by decide)).p (by decide)⟩
  | succ m ih =>
    intro n k S h1 h2 hk hn
    obtain ⟨n, rfl⟩ : ∃ q, n = q + 1 := ⟨n - 1, by omega⟩
    have hc := lk_126 ht k
    rw [mo_document_l59, if_neg (nI_ge (by omega) (by omega))]
    simp only [if_pos (nI_in (show k < 160 by omega) (by omega)), nI_clamp (show k < 2 ^ 31 by omega), md_lx]
    rw [h1 k (by omega), vnB _ (by omega), nI_1]
    obtain ⟨S', a, b, c, d, e, f⟩ := ih n (k + 1) (md_w S 11 k (nI (lk t k))) (fun j hj => by rw [md_w2, if_neg (by decide)]; exact h1 j hj) (fun j hj => by
      rw [md_w2, if_pos rfl]
      by_cases e : j = k
      · rw [e, upd_s]
      · rw [upd_n e]; exact h2 j (by omega)) (by omega) (by omega)
    exact ⟨S', a, b, c, d, e, (rF.rf.w (by decide)).tr f (fun _ z => z) (fun _ z => z)⟩
def aDoc (A : aS) : Int32 × Int32 × aS := match pD A.1 with
  | .inl D => (0, nI D.1, ([], some A.1, A.2.2.1, [], -1))
  | .inr w => (1, 0, ([], A.2.1, A.2.2.1, A.2.2.2.1, nI w))
theorem e_doc {A : aS} {S : md_S} {N : Nat} (h : rW A S) (hN : 500 ≤ N) : ∃ S', mo_document N S = some ((aDoc A).2.1, S') ∧ S'.1 0 = (aDoc A).1 ∧ rW (aDoc A).2.2 S' := by
  obtain ⟨ty, doc, q, fd, pl⟩ := A
  obtain ⟨h1, h2, h3, h4, h5⟩ := h
  simp only at h1 h2 h3 h4 h5
  unfold mo_document
  obtain ⟨S1, a1, a2, a3⟩ := e_take (N := N) h1.2 (by decide) (by omega)
  rw [h1.1, a1]
  simp only [md_cs, md_lx]
  have ht : tOk ty := h1.2.2.2
  have h160 := ht.1
  have f2 : rF [2, 4, 5, 6, 7] S (md_p S1 2 0) := (a3.mn (by decide)).p (by decide)
  have e12 : S1.1 2 = nI ty.length := by rw [(a3 2 (by decide)).1]; exact h1.1
  obtain ⟨r1, r2⟩ := e_document ht hN (S := md_p S1 2 0) (a2.p (by decide) (by decide) (by decide))
  have g2 : (md_p S1 2 0).1 2 = 0 := by rw [md_p1, if_pos rfl]
  obtain ⟨S2, hS2⟩ : ∃ S2, S2 = md_p S1 2 0 := ⟨_, rfl⟩
  rw [← hS2] at f2 r1 r2 g2 ⊢
  unfold aDoc
  cases hp : pD ty with
  | inl D =>
    obtain ⟨S3, p, b1, b2, b3, b4, b5⟩ := r1 D hp
    rw [b1]
    simp only [md_cs]
    have g7 : (md_p S3 3 (S3.1 7)).1 7 = -1 := by rw [md_p1, if_neg (by decide)]; exact b2.2.2
    rw [e_good g7]
    simp only [md_bs]
    rw [if_neg (by decide)]
    unfold mo_document_j47
    simp only [md_lx]
    have g7' : (md_p (md_p S3 3 (S3.1 7)) 0 0).1 7 = -1 := by rw [md_p1, if_neg (by decide)]; exact g7
    rw [e_good g7']
    simp only [md_bs]
    rw [if_neg (by decide), e12, show (0 : Int32) = nI 0 from rfl]
    have f4 : rF [0, 3] S3 (md_p (md_p S3 3 (S3.1 7)) 0 (nI 0)) := (rF.rf.p (by decide)).p (by decide)
    have g3 : (md_p (md_p S3 3 (S3.1 7)) 0 (nI 0)).1 3 = -1 := by rw [md_p1, if_neg (by decide), md_p1, if_pos rfl]; exact b2.2.2
    have g0 : (md_p (md_p S3 3 (S3.1 7)) 0 (nI 0)).1 0 = 0 := by rw [md_p1, if_pos rfl]; rfl
    obtain ⟨S4, hS4⟩ : ∃ S4, S4 = md_p (md_p S3 3 (S3.1 7)) 0 (nI 0) := ⟨_, rfl⟩
    rw [← hS4] at f4 g3 g0 ⊢
    obtain ⟨S5, c1, c2, c3, c4, c5, c6⟩ := e_docL ht N ty.length N 0 S4 (fun j hj => by rw [(f4 4 (by decide)).2]; exact b2.1.2 j hj) (fun j hj => absurd hj (by omega)) (by omega) (by omega)
    have hd4 : rD ty D [] S4 := b3.f f4 (by decide) (fun k h1 h2 z => by simp at z; omega)
    have f : rF ([0, 2, 3, 4, 5, 8, 9, 11, 82] ++ KD) S S5 := ((f2.tr b5 (K := [0, 2, 3, 4, 5, 8, 9, 11, 82] ++ KD) (by decide) (by decide)).tr f4 (fun _ z => z) (by decide)).tr c6 (fun _ z => z) (by decide)
    refine ⟨S5, by rw [c1, hd4.1], by rw [(c6 0 (by decide)).1]; exact g0, ⟨⟨?_, rA_nil (by decide +kernel)⟩, ⟨c2, c3, c5, D, hp, b4, hd4.f c6 (by decide) (fun k h1 h2 z => by simp at z; omega)⟩, h3.f f (by decide) (by decide) (by decide), ⟨c4, by simp, fun j hj => absurd hj (by simp)⟩, ?_⟩⟩
    · rw [(c6 2 (by decide)).1, (f4 2 (by decide)).1, (b5 2 (by decide)).1]; exact g2
    · rw [(c6 3 (by decide)).1]; exact g3
  | inr w =>
    obtain ⟨S3, b1, b2, b3, b4⟩ := r2 w hp
    rw [b1]
    simp only [md_cs]
    have g7 : rI w (md_p S3 3 (S3.1 7)) := by unfold rI; rw [md_p1, if_neg (by decide)]; exact b2
    rw [e_ill g7 b3]
    simp only [md_bs, if_true]
    unfold mo_document_j47
    simp only [md_lx]
    have g7' : rI w (md_p (md_p S3 3 (S3.1 7)) 0 1) := by unfold rI; rw [md_p1, if_neg (by decide)]; exact g7
    rw [e_ill g7' b3]
    simp only [md_bs, if_true]
    have f4 : rF [0, 3] S3 (md_p (md_p S3 3 (S3.1 7)) 0 1) := (rF.rf.p (by decide)).p (by decide)
    have g3 : (md_p (md_p S3 3 (S3.1 7)) 0 1).1 3 = nI w := by rw [md_p1, if_neg (by decide), md_p1, if_pos rfl]; exact b2
    have g0 : (md_p (md_p S3 3 (S3.1 7)) 0 1).1 0 = 1 := by rw [md_p1, if_pos rfl]
    obtain ⟨S4, hS4⟩ : ∃ S4, S4 = md_p (md_p S3 3 (S3.1 7)) 0 1 := ⟨_, rfl⟩
    rw [← hS4] at f4 g3 g0 ⊢
    have f : rF ([0, 2, 3, 4, 5] ++ KD) S S4 := (f2.tr b4 (K := [0, 2, 3, 4, 5] ++ KD) (by decide) (by decide)).tr f4 (fun _ z => z) (by decide)
    have k2 : S4.1 2 = 0 := by rw [(f4 2 (by decide)).1, (b4 2 (by decide)).1]; exact g2
    cases doc with
    | none =>
      have h2' : S.1 8 = 0 ∧ S.1 9 = 0 ∧ S.1 10 = 0 := h2
      have e9 : S4.1 9 = nI ([] : List Nat).length := by rw [(f 9 (by decide)).1]; exact h2'.2.1
      obtain ⟨S5, c1, c2, c3⟩ := e_take (N := N) (rA_nil (x := 11) (S := S4) (by decide +kernel)) (by decide) (by omega)
      rw [e9, c1]
      simp only [md_cs]
      have f6 : rF [4, 5, 6, 7, 10] S4 (md_p S5 10 0) := (c3.mn (by decide)).p (by decide)
      have e8 : (md_p S5 10 0).1 8 = 0 := by rw [(f6 8 (by decide)).1, (f 8 (by decide)).1]; exact h2'.1
      rw [if_pos e8]
      unfold mo_document_j130
      have ff : rF ([0, 2, 3, 4, 5] ++ KD) S (md_p S5 10 0) := f.tr f6 (fun _ z => z) (by decide)
      refine ⟨_, rfl, by rw [(f6 0 (by decide)).1]; exact g0, ⟨⟨by rw [(f6 2 (by decide)).1]; exact k2, rA_nil (by decide +kernel)⟩, ⟨e8, by rw [(ff 9 (by decide)).1]; exact h2'.2.1, by rw [md_p1, if_pos rfl]⟩, h3.f ff (by decide) (by decide) (by decide), h4.f ff (by decide) (by decide), by rw [(f6 3 (by decide)).1]; exact g3⟩⟩
    | some t =>
      obtain ⟨i1, i2, i3, D, i4, iK, i5⟩ := (show S.1 8 = 1 ∧ S.1 9 = nI t.length ∧ rA 11 t S ∧ ∃ D, pD t = .inl D ∧ dK D ∧ rD t D [] S from h2)
      have e9 : S4.1 9 = nI t.length := by rw [(f 9 (by decide)).1]; exact i2
      have hA4 : rA 11 t S4 := i3.f f (by decide)
      obtain ⟨S5, c1, c2, c3⟩ := e_take (N := N) hA4 (by decide) (by omega)
      rw [e9, c1]
      simp only [md_cs]
      have f6 : rF [4, 5, 6, 7, 10] S4 (md_p S5 10 0) := (c3.mn (by decide)).p (by decide)
      have e8 : (md_p S5 10 0).1 8 = 1 := by rw [(f6 8 (by decide)).1, (f 8 (by decide)).1]; exact i1
      rw [if_neg (by rw [e8]; decide)]
      obtain ⟨S6, p, d1, d2, d3, d4, d5⟩ := (e_document i3.2.2 hN (S := md_p S5 10 0) (c2.p (by decide) (by decide) (by decide))).1 D i4
      rw [d1]
      simp only [md_cs]
      unfold mo_document_j130
      have ff : rF ([0, 2, 3, 4, 5] ++ KD) S S6 := (f.tr f6 (fun _ z => z) (by decide)).tr d5 (fun _ z => z) (by decide)
      refine ⟨_, rfl, by rw [(d5 0 (by decide)).1, (f6 0 (by decide)).1]; exact g0, ⟨⟨by rw [(d5 2 (by decide)).1, (f6 2 (by decide)).1]; exact k2, rA_nil (by decide +kernel)⟩, ⟨by rw [(ff 8 (by decide)).1]; exact i1, by rw [(ff 9 (by decide)).1]; exact i2, i3.f ff (by decide), D, i4, d4, d3⟩, h3.f ff (by decide) (by decide) (by decide), h4.f ff (by decide) (by decide), by rw [(d5 3 (by decide)).1, (f6 3 (by decide)).1]; exact g3⟩⟩
def aTyp (A : aS) (c : Nat) : Int32 × aS := if c < 32 ∨ 126 < c ∨ A.1.length = 160 then (0, A) else (1, (A.1 ++ [c], A.2))
theorem lk_app {t : List Nat} {c j : Nat} : lk (t ++ [c]) j = if j < t.length then lk t j else if j = t.length then c else 0 := by
  unfold lk
  rw [List.getD_eq_getElem?_getD, List.getD_eq_getElem?_getD, List.getElem?_append]
  split
  · rfl
  next h =>
    by_cases e : j = t.length
    · rw [if_pos e, e]; simp
    · rw [if_neg e, List.getElem?_eq_none (by simp; omega)]; rfl
theorem tOk_app {t : List Nat} (h : tOk t) {c : Nat} (h1 : 32 ≤ c) (h2 : c ≤ 126) (h3 : t.length < 160) : tOk (t ++ [c]) := by
  refine ⟨by simp; omega, fun j hj => ?_⟩
  rw [lk_app]
  simp at hj
  split
  next z => exact h.2 j z
  next z => rw [if_pos (by omega)]; exact ⟨h1, h2⟩
theorem byteI : ∀ c, c < 128 → (nI c).toInt8.toInt32 = nI c := by decide +kernel
theorem e_typ {A : aS} {S : md_S} {c : Nat} (h : rW A S) (hc : c < 65536) : ∃ S', mo_type (nI c) S = some ((aTyp A c).1, S') ∧ rW (aTyp A c).2 S' := by
  obtain ⟨h1, h2, h3, h4, h5⟩ := h
  have hl := h1.2.2.2.1
  have f0 : rF [0] S (md_p S 0 0) := rF.rf.p (by decide)
  have hW0 : rW A (md_p S 0 0) := rW.f ⟨h1, h2, h3, h4, h5⟩ f0 (fun k z => by simp at z; subst z; decide)
  have g2 : (md_p S 0 0).1 2 = nI A.1.length := by rw [(f0 2 (by decide)).1]; exact h1.1
  unfold mo_type mo_type_j27 aTyp
  simp only [md_lx, g2]
  by_cases c1 : c < 32
  · rw [if_pos (show nI c < 32 from (nI_ltI (b := 32) (by omega) (by omega)).mpr c1), if_pos (Or.inl c1)]
    exact ⟨_, rfl, hW0⟩
  · rw [if_neg (show ¬ nI c < 32 from fun z => c1 ((nI_ltI (b := 32) (by omega) (by omega)).mp z))]
    by_cases c2 : 126 < c
    · rw [if_pos (show 126 < nI c from (nI_ltI (a := 126) (by omega) (by omega)).mpr c2), if_pos (Or.inr (Or.inl c2))]
      exact ⟨_, rfl, hW0⟩
    · rw [if_neg (show ¬ 126 < nI c from fun z => c2 ((nI_ltI (a := 126) (by omega) (by omega)).mp z))]
      by_cases c3 : A.1.length = 160
      · rw [if_pos (show nI A.1.length = 160 by rw [c3]; rfl), if_pos (Or.inr (Or.inr c3))]
        exact ⟨_, rfl, hW0⟩
      · rw [if_neg (show ¬ nI A.1.length = 160 from fun z => c3 ((nI_eq (b := 160) (by omega) (by omega)).mp z)), if_neg (show ¬ (c < 32 ∨ 126 < c ∨ A.1.length = 160) by omega), if_pos (nI_in (by omega) (by omega))]
        simp only [nI_clamp (show A.1.length < 2 ^ 31 by omega), md_w1]
        rw [byteI c (by omega), vnB c (by omega), g2, nI_1]
        have f1 : rF [0, 1, 2] S (md_p (md_w (md_p S 0 0) 1 A.1.length (nI c)) 2 (nI (A.1.length + 1))) := ((rF.rf.p (by decide)).w (by decide)).p (by decide)
        refine ⟨_, rfl, ⟨⟨?_, ⟨by decide +kernel, fun j hj => ?_, tOk_app h1.2.2.2 (by omega) (by omega) (by omega)⟩⟩, h2.f f1 (fun k h1 h2 z => by simp at z; omega), h3.f f1 (by decide) (by decide) (by decide), h4.f f1 (by decide) (by decide), by rw [(f1 3 (by decide)).1]; exact h5⟩⟩
        · rw [md_p1, if_pos rfl]; simp
        · show upd (S.2 1) A.1.length (nI c) j = _
          rw [lk_app]
          simp at hj
          by_cases e : j = A.1.length
          · rw [e, upd_s, if_neg (by omega), if_pos rfl]
          · rw [upd_n e, if_pos (by omega)]
            exact h1.2.2.1 j (by omega)
