def Q0 : cQ := ((0, fun _ => (0, false), fun _ => []), (0, fun _ => (false, 0), fun _ => []), (0, fun _ => (0, 0, 0, 0, 0)), (0, fun _ => []), (0, fun _ => (0, 0, 0)))
theorem rC_0 {S : md_S} (h1 : S.1 26 = 0) (h2 : S.1 27 = 0) (h3 : S.1 28 = 0) (h4 : S.1 29 = 0) (h5 : S.1 30 = 0) : rC Q0 S := by
  refine ⟨⟨h1, h2, h3, h4, h5⟩, ⟨by simp [Q0], by simp [Q0], by simp [Q0], by simp [Q0], by simp [Q0]⟩, fun a ha => absurd ha (Nat.not_lt_zero _), fun a ha => absurd ha (Nat.not_lt_zero _), fun a ha => absurd ha (Nat.not_lt_zero _), fun a ha => absurd ha (Nat.not_lt_zero _), fun a ha => absurd ha (Nat.not_lt_zero _), fun a ha => absurd ha (Nat.not_lt_zero _), fun a ha => absurd ha (Nat.not_lt_zero _)⟩
/-- the count of a path's segments -/
theorem e_cntL {Q : cQ} {S : md_S} (hC : rC Q S) (h7 : S.1 7 = -1) (N : Nat) : ∀ (l : List Nat) (f : Nat) (x : Int32) (c : Nat), chn (S.2 37) x l → (∀ s, s ∈ l → s < (qg Q).1) → l.length + 1 ≤ f → mo_readQuery_l156 N f (nI c) x S = some (nI (c + l.length), S) := by
  have b2 := hC.2.1.2.1
  intro l
  induction l with
  | nil =>
    intro f x c hx hl hf
    obtain ⟨f, rfl⟩ : ∃ k, f = k + 1 := ⟨f - 1, by omega⟩
    rw [mo_readQuery_l156, if_pos (show x = -1 from hx)]
    rfl
  | cons s r ih =>
    intro f x c hx hl hf
    obtain ⟨f, rfl⟩ : ∃ k, f = k + 1 := ⟨f - 1, by omega⟩
    have hs := hl s (by simp)
    obtain ⟨rfl, hr⟩ := hx
    rw [mo_readQuery_l156, if_neg (nI_m1 (by omega)), e_good h7]
    simp only [md_bs]
    rw [if_neg (by decide)]
    simp only [if_pos (nI_in (show s < 170 by omega) (by omega)), nI_clamp (show s < 2 ^ 31 by omega)]
    rw [nI_1, ih f _ (c + 1) hr (fun y hy => hl y (by simp [hy])) (by simp at hf; omega)]
    simp
    congr 1; omega
theorem e_readQuery {t : List Nat} (ht : tOk t) {N : Nat} {S : md_S} (hN : 2000 ≤ N) (hT : rT t 0 S) :
    (∀ d n, pQ t = .inl (d, n) → ∃ S' Q p, mo_readQuery N S = some (nI n, S') ∧ rT t p S' ∧ rC Q S' ∧ okP t Q 5 0 ∧ evP t Q 5 0 = d ∧ rF KR S S') ∧
    (∀ w, pQ t = .inr w → ∃ S', mo_readQuery N S = some (0, S') ∧ rI w S' ∧ w < 1000 ∧ rF KR S S') := by
  have h160 := ht.1
  unfold mo_readQuery
  simp only [md_lx]
  obtain ⟨S0, hS0⟩ : ∃ S0, S0 = md_p (md_p (md_p (md_p (md_p (md_p (md_p S 26 0) 27 0) 28 0) 29 0) 30 0) 31 0) 55 0 := ⟨_, rfl⟩
  rw [← hS0]
  have f0 : rF [26, 27, 28, 29, 30, 31, 55] S S0 := by
    rw [hS0]
    exact ((((((rF.rf.p (by decide)).p (by decide)).p (by decide)).p (by decide)).p (by decide)).p (by decide)).p (by decide)
  have hT0 := hT.f f0 (by decide) (by decide) (by decide) (by decide)
  have hC0 : rC Q0 S0 := rC_0 (by rw [hS0]; simp [md_p1]) (by rw [hS0]; simp [md_p1]) (by rw [hS0]; simp [md_p1]) (by rw [hS0]; simp [md_p1]) (by rw [hS0]; simp [md_p1])
  have hR0 : rR t 0 Q0 [] 0 S0 := ⟨hT0, hC0, ⟨by rw [hS0]; simp [md_p1]; rfl, by simp, trivial⟩, by rw [hS0]; simp [md_p1]; rfl⟩
  have e0 : mo_at 0 S0 = some (aT t 0, S0) := e_at hT0.1 ht (k := 0) (by omega)
  rw [e0]
  simp only [md_bs, aT_36 ht]
  unfold pQ
  by_cases c36 : lk t 0 = 36
  · rw [if_pos c36, if_pos c36]
    obtain ⟨S1, a1, a2, a3⟩ := hR0.path (rt := true) (by show 0 < 100; omega)
    rw [show (1 : Int32) = bI true from rfl, a1]
    simp only [md_bs]
    obtain ⟨S2, b1, b2, b3⟩ := a2.push (x := 0) (y := nI (qp Q0).1) (z := 0) (by simp)
    rw [b1]
    simp only [md_cs]
    have f2 : rF KR S S2 := ((f0.mn (K := KR) (by decide)).tr a3 (fun _ z => z) (by decide)).tr b3 (fun _ z => z) (by decide)
    obtain ⟨g1, g2⟩ := (ALL ht (N := N) (by omega) 4 (by omega)).1 0 Q0 [] S2 true b2 (by rw [c36]; rfl) (Or.inr c36) ⟨by show 0 ≤ _; omega, by show 0 ≤ _; omega, by show 0 ≤ _; omega, by show 0 ≤ _; omega, by show 0 ≤ _; omega⟩ (by simp)
    cases hr : (qLv t 4).2.1 0 with
    | inr w =>
      refine ⟨fun d n hq => (nomatch hq), fun w' hq => ?_⟩
      cases hq
      obtain ⟨k, S3, k1, k2, k3, k4, k5⟩ := g2 w hr
      refine ⟨S3, ?_, k3, k4, f2.tr k5 (fun _ z => z) (fun _ z => z)⟩
      have := k2 (N - k)
      rw [show N - k + k = N by omega] at this
      exact this
    | inl q =>
      obtain ⟨d, p⟩ := q
      obtain ⟨Q1, ⟨k, S3, k1, k2, k3, k4⟩, x1, x2, x3, kp, xa, xb, xc, xd, xe, xl, sem, okp⟩ := g1 d p hr
      have f3 : rF KR S S3 := f2.tr k4 (fun _ z => z) (fun _ z => z)
      have hend : ∀ n, qL N (n + 1) S3 = mo_readQuery_j121 N S3 := fun n => by
        rw [qL, mo_readQuery_l63, if_pos (by rw [k3.2.2.1.1]; decide)]
      have hrun : mo_readQuery_l63 N N S2 = mo_readQuery_j121 N S3 := by
        have := k2 (N - k - 1 + 1)
        rw [show N - k - 1 + 1 + k = N by omega] at this
        exact this.trans (hend _)
      unfold mo_readQuery_j121 at hrun
      rw [e_good k3.1.2.2] at hrun
      simp only [md_bs] at hrun
      rw [if_neg (by decide), k3.1.1.1, k3.1.2.1] at hrun
      show (∀ d' n, (if p < t.length then _ else _) = _ → _) ∧ (∀ w, (if p < t.length then _ else _) = _ → _)
      have q00 : (qp Q0).1 = 0 := rfl
      rw [q00] at xa sem xe xl okp
      by_cases hp : p < t.length
      · rw [if_pos hp]
        refine ⟨fun d' n hq => (nomatch hq), fun w' hq => ?_⟩
        cases hq
        rw [if_neg (nI_ge hp (by omega)), e_fail k3.1.2.2] at hrun
        simp only [md_cs] at hrun
        have hi : rI p (md_p S3 7 (nI p)) := by unfold rI; rw [md_p1, if_pos rfl]
        refine ⟨md_p S3 7 (nI p), ?_, hi, by omega, f3.p (by decide)⟩
        rw [hrun]
        unfold mo_readQuery_j147
        rw [if_pos (show md_in 0 100 by decide)]
        obtain ⟨M, rfl⟩ : ∃ m, N = m + 1 := ⟨N - 1, by omega⟩
        rw [mo_readQuery_l156]
        unfold mo_readQuery_j181
        split
        · rfl
        · rw [e_ill hi (by omega)]
          simp only [md_bs, if_true]
      · rw [if_neg hp]
        refine ⟨fun d' n hq => ?_, fun w' hq => (nomatch hq)⟩
        cases hq
        rw [if_pos (nI_le (by omega) (by omega))] at hrun
        have hch := k3.2.1.2.2.2.2.2.2.1 0 xa
        refine ⟨S3, Q1, p, ?_, k3.1, k3.2.1, okp Q1 agr.rf leQ.rf, sem Q1 agr.rf 5 (by omega), f3⟩
        rw [hrun]
        unfold mo_readQuery_j147
        rw [if_pos (show md_in 0 100 by decide)]
        have := e_cntL k3.2.1 k3.1.2.2 N ((qp Q1).2.2 0) N (S3.2 34 0) 0 hch.1 hch.2.2.2.1 (by omega)
        rw [Nat.zero_add, xe] at this
        exact this
  · rw [if_neg c36, if_neg c36, e_fail hT0.2.2]
    refine ⟨fun d n hq => (nomatch hq), fun w' hq => ?_⟩
    cases hq
    refine ⟨_, rfl, ?_, by omega, (f0.mn (K := KR) (by decide)).p (by decide)⟩
    unfold rI
    rw [md_p1, if_pos rfl]; rfl
theorem e_qryL {t : List Nat} (ht : tOk t) (N : Nat) {v : Int32} : ∀ (m n k : Nat) (S : md_S), (∀ j, j < t.length → S.2 4 j = nI (lk t j)) → (∀ j, j < k → S.2 32 j = nI (lk t j)) → k + m = t.length → m + 1 ≤ n → ∃ S', mo_query_l62 N n (nI t.length) v (nI k) S = some (v, S') ∧ S'.1 24 = 1 ∧ S'.1 25 = nI t.length ∧ rA 32 t S' ∧ rF [24, 25, 32] S S' := by
  have h160 := ht.1
  intro m
  induction m with
  | zero =>
    intro n k S h1 h2 hk hn
    obtain ⟨n, rfl⟩ : ∃ q, n = q + 1 := ⟨n - 1, by omega⟩
    rw [mo_query_l62, if_pos (nI_le (by omega) (by omega))]
    simp only [md_lx]
    refine ⟨md_p (md_p S 25 (nI t.length)) 24 1, rfl, by simp [md_p1], by simp [md_p1], ⟨by decide +kernel, fun j hj => h2 j (by omega), ht⟩, (rF.rf.p (by decide)).p (by decide)⟩
  | succ m ih =>
    intro n k S h1 h2 hk hn
    obtain ⟨n, rfl⟩ : ∃ q, n = q + 1 := ⟨n - 1, by omega⟩
    have hc := lk_126 ht k
    rw [mo_query_l62, if_neg (nI_ge (by omega) (by omega))]
    simp only [if_pos (nI_in (show k < 160 by omega) (by omega)), nI_clamp (show k < 2 ^ 31 by omega), md_lx]
    rw [h1 k (by omega), vnB _ (by omega), nI_1]
    obtain ⟨S', a, b, c, d, e⟩ := ih n (k + 1) (md_w S 32 k (nI (lk t k))) (fun j hj => by rw [md_w2, if_neg (by decide)]; exact h1 j hj) (fun j hj => by
      rw [md_w2, if_pos rfl]
      by_cases e : j = k
      · rw [e, upd_s]
      · rw [upd_n e]; exact h2 j (by omega)) (by omega) (by omega)
    exact ⟨S', a, b, c, d, (rF.rf.w (by decide)).tr e (fun _ z => z) (fun _ z => z)⟩
def aQry (A : aS) : Int32 × Int32 × aS := match pQ A.1 with
  | .inl d => (0, nI d.2, ([], A.2.1, some A.1, A.2.2.2.1, -1))
  | .inr w => (1, 0, ([], A.2.1, A.2.2.1, A.2.2.2.1, nI w))
theorem e_qry {A : aS} {S : md_S} {N : Nat} (h : rW A S) (hN : 2000 ≤ N) : ∃ S', mo_query N S = some ((aQry A).2.1, S') ∧ S'.1 0 = (aQry A).1 ∧ rW (aQry A).2.2 S' := by
  obtain ⟨ty, doc, q, fd, pl⟩ := A
  obtain ⟨h1, h2, h3, h4, h5⟩ := h
  simp only at h1 h2 h3 h4 h5
  unfold mo_query
  obtain ⟨S1, a1, a2, a3⟩ := e_take (N := N) h1.2 (by decide) (by omega)
  rw [h1.1, a1]
  simp only [md_cs, md_lx]
  have ht : tOk ty := h1.2.2.2
  have h160 := ht.1
  have f2 : rF [2, 4, 5, 6, 7] S (md_p S1 2 0) := (a3.mn (by decide)).p (by decide)
  have e12 : S1.1 2 = nI ty.length := by rw [(a3 2 (by decide)).1]; exact h1.1
  obtain ⟨r1, r2⟩ := e_readQuery ht hN (S := md_p S1 2 0) (a2.p (by decide) (by decide) (by decide))
  have g2 : (md_p S1 2 0).1 2 = 0 := by rw [md_p1, if_pos rfl]
  obtain ⟨S2, hS2⟩ : ∃ S2, S2 = md_p S1 2 0 := ⟨_, rfl⟩
  rw [← hS2] at f2 r1 r2 g2 ⊢
  unfold aQry
  cases hp : pQ ty with
  | inl d =>
    obtain ⟨d, n⟩ := d
    obtain ⟨S3, Q, p, b1, b2, b3, b4, b5, b6⟩ := r1 d n hp
    rw [b1]
    simp only [md_bs]
    have g7 : (md_p S3 3 (S3.1 7)).1 7 = -1 := by rw [md_p1, if_neg (by decide)]; exact b2.2.2
    rw [e_good g7]
    simp only [md_bs]
    rw [if_neg (by decide)]
    unfold mo_query_j48
    simp only [md_lx]
    have g7' : (md_p (md_p S3 3 (S3.1 7)) 0 0).1 7 = -1 := by rw [md_p1, if_neg (by decide)]; exact g7
    rw [e_good g7']
    simp only [md_bs]
    rw [if_neg (by decide), e12, show (0 : Int32) = nI 0 from rfl]
    have f4 : rF [0, 3] S3 (md_p (md_p S3 3 (S3.1 7)) 0 (nI 0)) := (rF.rf.p (by decide)).p (by decide)
    have g3 : (md_p (md_p S3 3 (S3.1 7)) 0 (nI 0)).1 3 = -1 := by rw [md_p1, if_neg (by decide), md_p1, if_pos rfl]; exact b2.2.2
    have g0 : (md_p (md_p S3 3 (S3.1 7)) 0 (nI 0)).1 0 = 0 := by rw [md_p1, if_pos rfl]; rfl
    obtain ⟨S4, hS4⟩ : ∃ S4, S4 = md_p (md_p S3 3 (S3.1 7)) 0 (nI 0) := ⟨_, rfl⟩
    rw [← hS4] at f4 g3 g0 ⊢
    obtain ⟨S5, c1, c2, c3, c4, c5⟩ := e_qryL ht N (v := nI n) ty.length N 0 S4 (fun j hj => by rw [(f4 4 (by decide)).2]; exact b2.1.2 j hj) (fun j hj => absurd hj (by omega)) (by omega) (by omega)
    have f : rF ([0, 2, 3, 4, 5, 24, 25, 32] ++ KR) S S5 := ((f2.tr b6 (K := [0, 2, 3, 4, 5, 24, 25, 32] ++ KR) (by decide) (by decide)).tr f4 (fun _ z => z) (by decide)).tr c5 (fun _ z => z) (by decide)
    refine ⟨S5, by rw [c1], by rw [(c5 0 (by decide)).1]; exact g0, ⟨⟨?_, rA_nil (by decide +kernel)⟩, h2.f f (fun k h1 h2 z => by simp [KR] at z; omega), ⟨c2, c3, c4⟩, h4.f f (by decide) (by decide), ?_⟩⟩
    · rw [(c5 2 (by decide)).1, (f4 2 (by decide)).1, (b6 2 (by decide)).1]; exact g2
    · rw [(c5 3 (by decide)).1]; exact g3
  | inr w =>
    obtain ⟨S3, b1, b2, b3, b4⟩ := r2 w hp
    rw [b1]
    simp only [md_bs]
    have g7 : rI w (md_p S3 3 (S3.1 7)) := by unfold rI; rw [md_p1, if_neg (by decide)]; exact b2
    rw [e_ill g7 b3]
    simp only [md_bs, if_true]
    unfold mo_query_j48
    simp only [md_lx]
    have g7' : rI w (md_p (md_p S3 3 (S3.1 7)) 0 1) := by unfold rI; rw [md_p1, if_neg (by decide)]; exact g7
    rw [e_ill g7' b3]
    simp only [md_bs, if_true]
    have f4 : rF [0, 3] S3 (md_p (md_p S3 3 (S3.1 7)) 0 1) := (rF.rf.p (by decide)).p (by decide)
    have f : rF ([0, 2, 3, 4, 5] ++ KR) S (md_p (md_p S3 3 (S3.1 7)) 0 1) := (f2.tr b4 (K := [0, 2, 3, 4, 5] ++ KR) (by decide) (by decide)).tr f4 (fun _ z => z) (by decide)
    refine ⟨_, rfl, by rw [md_p1, if_pos rfl], ⟨⟨?_, rA_nil (by decide +kernel)⟩, h2.f f (fun k h1 h2 z => by simp [KR] at z; omega), h3.f f (by decide) (by decide) (by decide), h4.f f (by decide) (by decide), ?_⟩⟩
    · rw [(f4 2 (by decide)).1, (b4 2 (by decide)).1]; exact g2
    · rw [md_p1, if_neg (by decide), md_p1, if_pos rfl]; exact b2
