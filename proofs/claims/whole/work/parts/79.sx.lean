/-! the reference's find -/
theorem ic_len {l : List Nat} {m : Nat} (h : l.Pairwise (· < ·)) (k : ∀ x, x ∈ l → x < m) : l.length ≤ m := by
  have := dc_len (l := l.reverse) (m := m) (List.pairwise_reverse.mpr h) (fun x hx => k x (List.mem_reverse.mp hx))
  rwa [List.length_reverse] at this
theorem rC_len {Q : cQ} {S : md_S} (h : rC Q S) : (∀ c, c < (qc Q).1 → ((qc Q).2 c).length ≤ 170) ∧ (∀ s, s < (qg Q).1 → ((qg Q).2.2 s).length ≤ 170) ∧ (∀ a, a < (qp Q).1 → ((qp Q).2.2 a).length ≤ 170) ∧ ∀ a s, a < (qp Q).1 → s ∈ (qp Q).2.2 a → s < (qg Q).1 := by
  obtain ⟨_, ⟨b1, b2, b3, b4, b5⟩, _, _, _, _, d1, d2, d3⟩ := h
  refine ⟨fun c hc => ?_, fun c hc => ?_, fun c hc => ?_, fun a s ha hs => (d1 a ha).2.2.2.1 s hs⟩
  · have := ic_len (d3 c hc).2.2.1 (d3 c hc).2.2.2.1; omega
  · have := ic_len (d2 c hc).2.2.1 (d2 c hc).2.2.2.1; omega
  · have := ic_len (d1 c hc).2.2.1 (d1 c hc).2.2.2.1; omega
theorem e_l59 {row : List Nat} (N : Nat) (hl : row.length ≤ 300) : ∀ (d i fu : Nat) (S : md_S), i + d = row.length → d + 1 ≤ fu → (∀ j, j < row.length → S.2 74 j = nI (lk row j)) → (∀ j, j < i → S.2 83 j = nI (lk row j)) → ∃ S', mo_leave_l59 N fu (nI row.length) (nI i) S = some S' ∧ (∀ j, j < row.length → S'.2 83 j = nI (lk row j)) ∧ rF [83] S S' ∧ S'.1 = S.1 := by
  intro d
  induction d with
  | zero =>
    intro i fu S hi hfu h74 h83
    obtain ⟨fu, rfl⟩ : ∃ k, fu = k + 1 := ⟨fu - 1, by omega⟩
    rw [mo_leave_l59, if_pos (nI_le (by omega) (by omega))]
    exact ⟨S, rfl, fun j hj => h83 j (by omega), rF.rf, rfl⟩
  | succ d ih =>
    intro i fu S hi hfu h74 h83
    obtain ⟨fu, rfl⟩ : ∃ k, fu = k + 1 := ⟨fu - 1, by omega⟩
    rw [mo_leave_l59, if_neg (nI_ge (by omega) (by omega))]
    simp only [if_pos (nI_in (show i < 2400 by omega) (by omega)), if_pos (nI_in (show i < 300 by omega) (by omega)), nI_clamp (show i < 2 ^ 31 by omega), md_lx]
    rw [h74 i (by omega), nI_1]
    obtain ⟨S', a, b, c, e⟩ := ih (i + 1) fu (md_w S 83 i (nI (lk row i))) (by omega) (by omega) (fun j hj => by rw [md_w_k (by decide)]; exact h74 j hj) (fun j hj => by
      by_cases e : j = i
      · rw [e, md_w_s]
      · rw [md_wn (by omega)]; exact h83 j (by omega))
    exact ⟨S', a, b, (rF.rf.w (by decide)).tr c (fun _ z => z) (fun _ z => z), e⟩
/-- the last step -/
theorem r_last {t : List Nat} {D : dS} {tq : List Nat} {Q : cQ} {row : List Nat} : RN 1 t D tq Q (fun S => tp t tq D 0 [] S ∧ S.2 62 0 = 0 ∧ S.2 64 0 = -1 ∧ S.2 63 0 = 0 ∧ rRow 0 row S) (some (row, 0)) (fun r S S' => S'.1 59 = 0 ∧ rFd r S') := by
  refine RN.on0 (fun S h => h.1.n0 (by omega)) fun N hN S hS h60 h => ?_
  obtain ⟨h1, h2, h3, h4, h5⟩ := h
  have hl := h5.2.1
  obtain ⟨S1, hS1⟩ : ∃ S1, S1 = md_p (md_p S 59 (nI 0)) 82 (nI row.length) := ⟨_, rfl⟩
  have f1 : rF [59, 82] S S1 := by rw [hS1]; exact (rF.rf.p (by decide)).p (by decide)
  obtain ⟨S', a1, a2, a3, a4⟩ := e_l59 (row := row) N hl row.length 0 N S1 (by omega) (by omega) (fun j hj => by
    rw [(f1 74 (by decide)).2]
    have := h5.2.2 j hj
    rwa [show 300 * 0 + j = j by omega] at this) (fun j hj => absurd hj (by omega))
  have f2 : rF [59, 82, 83] S S' := f1.tr a3 (fun q z => by simp at z ⊢; omega) (fun q z => by simp at z ⊢; omega)
  refine ⟨S', ?_, f2.mn (fun q z => by simp at z; exact KM_in (by omega) (by omega)), (f2 60 (by decide)).1, (f2 61 (by decide)).1, ?_, ?_, hl, a2⟩
  · unfold mo_step mo_leave
    simp only [h1.1, nI_pred, if_pos (nI_in (show 0 < 8 by omega) (by omega)), nI_clamp (show 0 < 2 ^ 31 by omega), h2, h3, if_true, md_lx, md_p2, h4, h5.1, ← hS1]
    rw [show (0 : Int32) = nI 0 from rfl, a1]
    rfl
  · rw [a4, hS1, md_p1, if_neg (by decide), md_p1, if_pos rfl]; rfl
  · rw [a4, hS1, md_p1, if_pos rfl]
def fRes (A : aS) (x : eR (List Nat)) : Int32 × Int32 × aS := match x with
  | none => (2, 0, (A.1, A.2.1, A.2.2.1, [], A.2.2.2.2))
  | some (row, k) => if k ≤ 1000000 then (0, nI row.length, (A.1, A.2.1, A.2.2.1, row, A.2.2.2.2)) else (2, 0, (A.1, A.2.1, A.2.2.1, [], A.2.2.2.2))
def aFind (A : aS) : Int32 × Int32 × aS := match A.2.1, A.2.2.1 with
  | some t, some tq => (match pD t, pQ tq with
    | .inl D, .inl d => fRes A (d.1 D 0)
    | _, _ => (1, 0, A))
  | _, _ => (1, 0, A)
def aOk (A : aS) : Prop := ∀ t, A.2.2.1 = some t → ∃ d, pQ t = .inl d
theorem e_find {A : aS} {S : md_S} {N : Nat} (h : rW A S) (hA : aOk A) (hN : 3000 + kB 7 ≤ N) (hN2 : paB 5 + 3 ≤ N) : ∃ S', mo_find N S = some ((aFind A).2.1, S') ∧ S'.1 0 = (aFind A).1 ∧ rW (aFind A).2.2 S' := by
  obtain ⟨ty, doc, q, fd, pl⟩ := A
  obtain ⟨h1, h2, h3, h4, h5⟩ := h
  simp only at h1 h2 h3 h4 h5
  have no : ∃ S', mo_find_j15 N S = some ((0 : Int32), S') ∧ S'.1 0 = 1 ∧ rW (ty, doc, q, fd, pl) S' := by
    unfold mo_find_j15 mo_find_j20
    simp only [md_lx]
    have g0 : (md_p S 0 1).1 0 = 1 := by rw [md_p1, if_pos rfl]
    rw [g0, if_neg (by decide)]
    have f : rF [0] S (md_p S 0 1) := rF.rf.p (by decide)
    exact ⟨_, rfl, g0, ⟨h1.f f (by decide) (by decide), h2.f f (fun k x y z => by simp at z; omega), h3.f f (by decide) (by decide) (by decide), h4.f f (by decide) (by decide), h5⟩⟩
  unfold mo_find
  cases doc with
  | none =>
    rw [if_pos h2.1]
    exact no
  | some t =>
    cases q with
    | none =>
      have h24 : S.1 24 = 0 := h3
      rw [if_pos h24, ite_self]
      exact no
    | some tq =>
      obtain ⟨b1, b2, b3, D, b4, b5, b6⟩ := h2
      obtain ⟨c1, c2, c3⟩ := h3
      rw [b1, c1, if_neg (by decide), if_neg (by decide)]
      obtain ⟨⟨d, dn⟩, hq⟩ := hA tq rfl
      have hD : aFind (ty, some t, some tq, fd, pl) = fRes (ty, some t, some tq, fd, pl) (d D 0) := by
        unfold aFind
        simp only [b4, hq]
      rw [hD]
      unfold mo_find_j20
      simp only [md_lx]
      have g0 : (md_p S 0 0).1 0 = 0 := by rw [md_p1, if_pos rfl]
      have g25 : (md_p S 0 0).1 25 = nI tq.length := by rw [md_p1, if_neg (by decide)]; exact c2
      rw [g0, if_pos (by decide), g25]
      have f0 : rF [0] S (md_p S 0 0) := rF.rf.p (by decide)
      have ht : tOk tq := c3.2.2
      obtain ⟨S1, k1, k2, k3⟩ := e_take (N := N) (c3.f f0 (by decide)) (by decide) (by omega)
      rw [k1]
      simp only [md_cs]
      obtain ⟨S2, Q, p, r1, r2, r3, r4, r5, r6⟩ := (e_readQuery ht (show 2000 ≤ N by omega) k2).1 d dn hq
      rw [r1]
      simp only [md_bs]
      obtain ⟨S3, hS3⟩ : ∃ S3, S3 = md_p (md_p (md_p (md_p (md_p S2 59 0) 76 0) 61 0) 60 0) 82 0 := ⟨_, rfl⟩
      rw [← hS3]
      have f3 : rF [59, 60, 61, 76, 82] S2 S3 := by
        rw [hS3]
        exact ((((rF.rf.p (by decide)).p (by decide)).p (by decide)).p (by decide)).p (by decide)
      have fA : rF ([0, 4, 5] ++ KR) S S2 := ((f0.mn (K := [0, 4, 5] ++ KR) (by decide)).tr k3 (fun _ z => z) (by decide)).tr r6 (fun _ z => z) (by decide)
      have e59 : S3.1 59 = nI 0 := by rw [hS3]; simp [md_p1]; rfl
      have e60 : S3.1 60 = 0 := by rw [hS3]; simp [md_p1]
      have e61 : S3.1 61 = nI 0 := by rw [hS3]; simp [md_p1]; rfl
      have e76 : S3.1 76 = nI 0 := by rw [hS3]; simp [md_p1]; rfl
      have hW : dW t D := pD_dW b3.2.2 b4
      have hSt2 : rSt t D tq Q S2 := ⟨⟨hW, b6.f fA (by decide) (fun k x y z => by simp [KR] at z; omega), b3.f fA (by decide)⟩, r3, c3.f fA (by decide)⟩
      have hSt3 := hSt2.f f3 (fun k z => by simp at z; omega)
      have hap : 0 < (qp Q).1 := r4.1
      obtain ⟨S4, m1, m2, m3, m4, m5, m6, m7, m8⟩ := e_enter (x := 0) (u := 0) hSt3 e59 (by omega) hap
      rw [show (0 : Int32) = nI 0 from rfl] at m1 ⊢
      rw [m1]
      simp only [md_cs]
      obtain ⟨l1, l2, l3, l4⟩ := rC_len r3
      have hb := r3.2.1
      have run := e_paths (t := t) (tq := tq) hW ⟨hb.2.1, hb.2.2.1, hb.2.2.2.1⟩ l1 l2 l3 l4 5 0 0 (by omega) (by omega) 0 r4 0 0 [] hW.2.1 (by simp)
      rw [r5] at run
      have run2 : RN (paB 5 + 1) t D tq Q (PP t tq D Q 0 0 0 0 []) (d D 0) (fun r S S' => S'.1 59 = 0 ∧ rFd r S') := by
        refine RN.eq ?_ (show d D 0 = eB (d D 0) fun r => some (r, 0) from eB_p.symm)
        exact RN.bd run (P2 := fun r S => tp t tq D 0 [] S ∧ S.2 62 0 = 0 ∧ S.2 64 0 = -1 ∧ S.2 63 0 = 0 ∧ rRow 0 r S) (R2 := fun r r' S S' => S'.1 59 = 0 ∧ rFd r' S') (fun r k _ _ => r_last) (fun r S S' hp hr => ⟨hr.1, hr.2.1, hr.2.2.1, hr.2.2.2.1.trans hp.2.2.1, hr.2.2.2.2.1⟩) (fun r b S S' S'' _ _ h => h)
      obtain ⟨j, j1, j2⟩ := run2
      generalize paB 5 = pb at j1 hN2
      generalize hkk : kB 7 = kk at hN
      have hSt4 := hSt3.f m8 (fun k z => by simp at z; omega)
      have hPP : PP t tq D Q 0 0 0 0 [] S4 := ⟨⟨m2, ⟨by rw [(m8 76 (by decide)).1]; exact e76, by simp, trivial⟩⟩, m3, m4, m5, by rw [ite_self]; exact m6⟩
      obtain ⟨x1, x2⟩ := j2 N (by rw [hkk]; exact hN) S4 0 hSt4 (by rw [(m8 60 (by decide)).1]; exact e60) (by rw [(m8 61 (by decide)).1]; exact e61) (by omega) hPP
      have f4 : rF ([0, 4, 5] ++ KR ++ KM) S S4 := ((fA.mn (K := [0, 4, 5] ++ KR ++ KM) (fun k z => List.mem_append.mpr (Or.inl z))).tr f3 (fun _ z => z) (by decide)).tr m8 (fun _ z => z) (by decide)
      -- the end
      have fin : ∀ (S' : md_S) (v : Int32) (r : List Nat), rF ([0, 4, 5] ++ KR ++ KM) S S' → rFd r S' → rW (ty, some t, some tq, r, pl) S' := fun S' v r f hr =>
        ⟨h1.f f (by decide) (by decide), ⟨by rw [(f 8 (by decide)).1]; exact b1, by rw [(f 9 (by decide)).1]; exact b2, b3.f f (by decide), D, b4, b5, b6.f f (by decide) (fun k x y z => by simp [KR, KM] at z; omega)⟩, ⟨by rw [(f 24 (by decide)).1]; exact c1, by rw [(f 25 (by decide)).1]; exact c2, c3.f f (by decide)⟩, hr, by rw [(f 3 (by decide)).1]; exact h5⟩
      have over : ∀ S', (∀ n, mo_find_l81 N (n + j + 1) S4 = mo_find_j102 N S') → S'.1 60 = 1 → rF KM S4 S' → ∃ S'', mo_find_l81 N N S4 = some ((0 : Int32), S'') ∧ S''.1 0 = 2 ∧ rW (ty, some t, some tq, [], pl) S'' := fun S' y1 y2 y3 => by
        have e1 := y1 (N - j - 1)
        rw [show N - j - 1 + j + 1 = N by omega] at e1
        have f5 : rF ([0, 4, 5] ++ KR ++ KM) S (md_p (md_p S' 0 2) 82 0) := ((f4.tr y3 (fun _ z => z) (fun k z => by simp only [List.mem_append]; exact Or.inr z)).p (by decide)).p (by decide)
        refine ⟨md_p (md_p S' 0 2) 82 0, ?_, by simp [md_p1], fin _ 2 [] f5 ⟨by simp [md_p1]; rfl, by simp, fun j hj => absurd hj (by simp)⟩⟩
        rw [e1]
        unfold mo_find_j102 mo_find_j115 mo_find_j134
        have g60 : (md_p S' 0 2).1 60 = 1 := by rw [md_p1, if_neg (by decide)]; exact y2
        simp only [y2, md_lx, g60]
        rw [if_neg (by decide), if_neg (by decide)]
        simp [md_p1]
      unfold fRes
      cases hd : d D 0 with
      | none =>
        obtain ⟨S', y1, y2, y3⟩ := x2 (Or.inl hd)
        exact over S' y1 y2 y3
      | some w =>
        obtain ⟨row, k⟩ := w
        by_cases hk : k ≤ 1000000
        · simp only [if_pos hk]
          obtain ⟨S', y1, y2, y3, y4, y5, y6⟩ := x1 row k hd (by omega)
          have e1 := y1 (N - j - 1 + 1)
          rw [show N - j - 1 + 1 + j = N by omega] at e1
          have g60 : (md_p S' 0 0).1 60 = 0 := by rw [md_p1, if_neg (by decide)]; exact y2
          have g82 : (md_p S' 0 0).1 82 = nI row.length := by rw [md_p1, if_neg (by decide)]; exact y6.1
          have f5 : rF ([0, 4, 5] ++ KR ++ KM) S (md_p (md_p S' 0 0) 82 (nI row.length)) := ((f4.tr y4 (fun _ z => z) (fun k z => by simp only [List.mem_append]; exact Or.inr z)).p (by decide)).p (by decide)
          refine ⟨md_p (md_p S' 0 0) 82 (nI row.length), ?_, by simp [md_p1], fin _ 0 row f5 ⟨by simp [md_p1], y6.2.1, fun i hi => y6.2.2 i hi⟩⟩
          rw [e1, mo_find_l81, if_pos (by rw [y5]; decide)]
          unfold mo_find_j102 mo_find_j115 mo_find_j134
          simp only [y2, md_lx, g60, if_true, g82]
          simp [md_p1]
        · simp only [if_neg hk]
          obtain ⟨S', y1, y2, y3⟩ := x2 (Or.inr ⟨row, k, hd, by omega⟩)
          exact over S' y1 y2 y3
