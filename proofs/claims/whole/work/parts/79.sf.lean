theorem e_next {t : List Nat} (ht : tOk t) {N p e s : Nat} {Q : cQ} {td : tdL} {S : md_S} (hN : 161 ≤ N) (hR : rR t p Q ((2, nI s, 0) :: td) e S) (hs : s < (qg Q).1) (hp : p ≤ t.length) (htd : td.length + 5 ≤ 400) (hl : ((qg Q).2.2 s).length ≤ 4) :
    (lk t p = 44 ∧ ((qg Q).2.2 s).length < 4 → ∃ S', (∀ n, qL N (n + 1) S = qL N n S') ∧ rR t (p + 1) Q ((1, nI s, 0) :: td) e S' ∧ rF KR S S') ∧
    (¬ (lk t p = 44 ∧ ((qg Q).2.2 s).length < 4) → lk t p = 93 → ∃ S', (∀ n, qL N (n + 1) S = qL N n S') ∧ rR t (p + 1) Q ((0, nI ((qg Q).2.1 s).2, 0) :: td) e S' ∧ rF KR S S') ∧
    (¬ (lk t p = 44 ∧ ((qg Q).2.2 s).length < 4) → lk t p ≠ 93 → baR t N p S p 40) := by
  have h160 := ht.1
  have hR0 := hR.pop
  have hC := hR.2.1
  have hns := hC.2.1.2.1
  have hst := qL_st (N := N) hR.1.2.2 hR.2.2.1
  obtain ⟨S0, hS0⟩ : ∃ S0, S0 = md_p S 55 (nI td.length) := ⟨_, rfl⟩
  have f0 : rF KR S S0 := by
    rw [hS0]
    exact rF.rf.p (by decide)
  rw [← hS0] at hR0 hst
  have c2 := hR0.2.1.2.2.2.1 s hs
  have unf : mo_readNext (nI s) S0 = (if lk t p = 44 then (if 4 ≤ nI ((qg Q).2.2 s).length then mo_readNext_j43 (nI s) S0 else mo_push 1 (nI s) 0 (md_p S0 6 (S0.1 6 + 1))) else mo_readNext_j43 (nI s) S0) := by
    unfold mo_readNext
    rw [e_atp hR0.1 ht (by omega)]
    simp only [md_bs, aT_44 ht, md_lx, md_ci, if_pos (nI_in (show s < 170 by omega) (by omega)), nI_clamp (show s < 2 ^ 31 by omega), c2.2.2]
  have h4 : (4 ≤ nI ((qg Q).2.2 s).length) = (4 ≤ ((qg Q).2.2 s).length) := propext (nI_leI (a := 4) (by omega) (by omega))
  simp only [h4] at unf
  have j43 : (lk t p = 93 → ∃ S', mo_readNext_j43 (nI s) S0 = some S' ∧ rR t (p + 1) Q ((0, nI ((qg Q).2.1 s).2, 0) :: td) e S' ∧ rF KR S0 S') ∧ (lk t p ≠ 93 → ∃ S', mo_readNext_j43 (nI s) S0 = some S' ∧ rI p S' ∧ rF KR S0 S') := by
    unfold mo_readNext_j43
    rcases hR0.need ht (c := 93) hp (by decide) (by decide) with ⟨e1, S1, a, b, f⟩ | ⟨e1, S1, a, b, d, f⟩
    · refine ⟨fun _ => ?_, fun z => absurd e1 z⟩
      rw [show (93 : Int32) = nI 93 from rfl, a]
      simp only [md_cs, md_ci, if_pos (nI_in (show s < 170 by omega) (by omega)), nI_clamp (show s < 2 ^ 31 by omega), (b.2.1.2.2.2.1 s hs).2.1]
      obtain ⟨S2, b1, b2, b3⟩ := b.push (x := 0) (y := nI ((qg Q).2.1 s).2) (z := 0) (by omega)
      exact ⟨S2, b1, b2, (f.mn (K := KR) (by decide)).tr b3 (fun _ z => z) (by decide)⟩
    · refine ⟨fun z => absurd z e1, fun _ => ?_⟩
      rw [show (93 : Int32) = nI 93 from rfl, a]
      simp only [md_cs, md_ci, if_pos (nI_in (show s < 170 by omega) (by omega)), nI_clamp (show s < 2 ^ 31 by omega), (d.2.2.2.1 s hs).2.1]
      obtain ⟨S2, b1, b2, b3⟩ := e_push (x := 0) (y := nI ((qg Q).2.1 s).2) (z := 0) (hR0.2.2.1.f f (by decide) (by decide) (by decide) (by decide)) (by omega)
      exact ⟨S2, b1, by unfold rI; rw [(b3 7 (by decide)).1]; exact b, (f.mn (K := KR) (by decide)).tr b3 (fun _ z => z) (by decide)⟩
  have nx : ¬ (lk t p = 44 ∧ ((qg Q).2.2 s).length < 4) → mo_readNext (nI s) S0 = mo_readNext_j43 (nI s) S0 := fun h => by
    rw [unf]
    by_cases e1 : lk t p = 44
    · rw [if_pos e1, if_pos (by omega)]
    · rw [if_neg e1]
  refine ⟨fun h => ?_, fun h h2 => ?_, fun h h2 => ?_⟩
  · rw [if_pos h.1, if_neg (by omega)] at unf
    obtain ⟨S2, b1, b2, b3⟩ := hR0.i.push (x := 1) (y := nI s) (z := 0) (by omega)
    refine ⟨S2, fun n => ?_, b2, (f0.p (by decide)).tr b3 (fun _ z => z) (by decide)⟩
    rw [hst, rqp2, unf, b1]
    rfl
  · obtain ⟨S2, b1, b2, b3⟩ := j43.1 h2
    refine ⟨S2, fun n => ?_, b2, f0.tr b3 (fun _ z => z) (fun _ z => z)⟩
    rw [hst, rqp2, nx h, b1]
    rfl
  · obtain ⟨S2, b1, b2, b3⟩ := j43.2 h2
    refine ⟨2, S2, by omega, fun n => ?_, b2, by omega, f0.tr b3 (fun _ z => z) (fun _ z => z)⟩
    rw [show n + 2 = (n + 1) + 1 from rfl, hst, rqp2, nx h, b1]
    exact qL_ill hN b2 (by omega)
abbrev knd (Q : cQ) (k : Nat) : Bool := ((qk Q).2 k).1 == 0 || ((qk Q).2 k).1 == 2
theorem SSl {t : List Nat} (ht : tOk t) {N nv : Nat} (hN : 161 ≤ N) (hnv : nv ≤ 4) (hlo : ∀ m, nv = m + 1 → AN t N m) : ∀ (k p : Nat) (Q : cQ) (s : Nat) (td : tdL) (S : md_S), rR t p Q ((1, nI s, 0) :: td) (4 - nv) S → s < (qg Q).1 → ((qg Q).2.2 s).length + k = 4 → entS (4 - nv) ((qg Q).2.2 s).length p Q → td.length + 20 * nv + 6 ≤ 400 → p ≤ t.length → 0 < k →
    (∀ xs p', qSels t (loV t nv) k p = .inl (xs, p') → ∃ Q' kl, gdR t N p S ((0, nI ((qg Q).2.1 s).2, 0) :: td) (4 - nv) p' Q' 0 0 ∧ p < p' ∧ p' ≤ t.length ∧ grwS 0 k Q p Q' p' ∧ kpQ none (some s) none Q Q' ∧ (qg Q').2.2 s = (qg Q).2.2 s ++ kl ∧ kl.length = xs.length ∧ kl.all (knd Q') = xs.all (·.2) ∧ (∀ X, agr Q Q' X → leQ Q' X → ∀ k, k ∈ kl → okK t X (okP t X nv) ((qk X).2 k)) ∧ ∀ X, agr Q Q' X → ∀ f, nv ≤ f → kl.map (fun k => selE t (evP t X f) X ((qk X).2 k)) = xs.map (·.1)) ∧
    (∀ w, qSels t (loV t nv) k p = .inr w → baR t N p S w 40) := by
  have h160 := ht.1
  intro k
  induction k with
  | zero =>
    intro p Q s td S hR hs hk hE htd hp h0
    exact absurd h0 (by omega)
  | succ k ih =>
    intro p Q s td S hR hs hk hE htd hp h0
    obtain ⟨g1, g2⟩ := SLl ht hN hnv hlo p Q s td S ((qg Q).2.2 s).length hR hs hE (by omega) (by omega) hp
    obtain ⟨z1, z2, z3, z4, z5⟩ := hE
    rw [qSels]
    cases hr : qSel t (loV t nv) p with
    | inr w =>
      refine ⟨fun xs p' hq => (nomatch hq), fun w' hq => ?_⟩
      cases hq
      exact g2 w hr
    | inl q =>
      obtain ⟨x, p1⟩ := q
      obtain ⟨Q1, ⟨k1, S1, x1, x2, x3, x4⟩, y1, y2, ⟨i1, i2, i3, i4, i5⟩, kp, y5, y6, y7, sem, ok⟩ := g1 x p1 hr
      have hs1 : s < (qg Q1).1 := Nat.lt_of_lt_of_le hs kp.1.2.1
      have hl1 : ((qg Q1).2.2 s).length = ((qg Q).2.2 s).length + 1 := by rw [y6]; simp
      have ha1 : (qg Q1).2.1 s = (qg Q).2.1 s := (kp.2.2.1 s hs).1
      obtain ⟨n1, n2, n3⟩ := e_next ht (N := N) hN x3 hs1 y2 (by omega) (by omega)
      rw [ha1] at n2
      show (∀ xs p', (if k ≠ 0 ∧ lk t p1 = 44 then _ else _) = _ → _) ∧ (∀ w, (if k ≠ 0 ∧ lk t p1 = 44 then _ else _) = _ → _)
      by_cases hc : k ≠ 0 ∧ lk t p1 = 44
      · rw [if_pos hc]
        have hlt := lk_lt hc.2 (by decide)
        obtain ⟨S2, b1, b2, b3⟩ := n1 ⟨hc.2, by omega⟩
        obtain ⟨j1, j2⟩ := ih (p1 + 1) Q1 s td S2 b2 hs1 (by omega) ⟨by omega, by omega, by omega, by omega, by omega⟩ htd (by omega) (by omega)
        rw [ha1] at j1
        have hs2 : ∀ n, qL N (n + (1 + k1)) S = qL N n S2 := fun n => by rw [← Nat.add_assoc, x2, b1]
        have f2 : rF KR S S2 := x4.tr b3 (fun _ z => z) (fun _ z => z)
        cases hr2 : qSels t (loV t nv) k (p1 + 1) with
        | inr w =>
          refine ⟨fun xs p' hq => (nomatch hq), fun w' hq => ?_⟩
          cases hq
          exact (j2 w hr2).of (k := 1 + k1) (by omega) hs2 f2
        | inl q =>
          obtain ⟨xs, p2⟩ := q
          refine ⟨fun xs' p' hq => ?_, fun w' hq => (nomatch hq)⟩
          cases hq
          obtain ⟨Q2, kl, ⟨k2, S3, w1, w2, w3, w4⟩, u1, u2, ⟨m1, m2, m3, m4, m5⟩, kp2, u5, u6, u7, ok2, sem2⟩ := j1 xs p2 hr2
          have ek : (qk Q2).2 (qk Q).1 = (qk Q1).2 (qk Q).1 := kp2.2.2.2.1 (qk Q).1 y5
          refine ⟨Q2, (qk Q).1 :: kl, ⟨k2 + (1 + k1), S3, by omega, fun n => ?_, w3, f2.tr w4 (fun _ z => z) (fun _ z => z)⟩, by omega, u2, ⟨by omega, by omega, by omega, by omega, by omega⟩, kp.tr kp2 (fun b z => (nomatch z)) (fun b z _ => z) (fun b z => (nomatch z)), ?_, by simp [u6], ?_, fun X hX hL k hk => ?_, fun X hX f hf => ?_⟩
          · rw [← Nat.add_assoc, hs2, w2]
          · rw [u5, y6]; simp
          · rw [List.all_cons, List.all_cons, u7]
            congr 1
            show (((qk Q2).2 (qk Q).1).1 == 0 || ((qk Q2).2 (qk Q).1).1 == 2) = _
            rw [ek, y7]
          · have hX2 : agr Q1 Q2 X := hX.sub kp.1 leQ.rf agr.rf
            have hX1 : agr Q Q1 X := hX.kp kp2 kp.1 (fun b z => (nomatch z)) (fun b z => by cases z; exact hs) (fun b z => (nomatch z))
            rcases List.mem_cons.mp hk with z | z
            · rw [z]; exact ok X hX1 (kp2.1.tr hL)
            · exact ok2 X hX2 hL k z
          · have hX2 : agr Q1 Q2 X := hX.sub kp.1 leQ.rf agr.rf
            have hX1 : agr Q Q1 X := hX.kp kp2 kp.1 (fun b z => (nomatch z)) (fun b z => by cases z; exact hs) (fun b z => (nomatch z))
            rw [List.map_cons, List.map_cons, sem X hX1 f hf, sem2 X hX2 f hf]
      · rw [if_neg hc]
        unfold exC
        have hn : ¬ (lk t p1 = 44 ∧ ((qg Q1).2.2 s).length < 4) := fun z => hc ⟨by omega, z.1⟩
        by_cases e93 : lk t p1 = 93
        · rw [if_pos e93]
          refine ⟨fun xs' p' hq => ?_, fun w' hq => (nomatch hq)⟩
          cases hq
          have hlt := lk_lt e93 (by decide)
          obtain ⟨S2, b1, b2, b3⟩ := n2 hn e93
          refine ⟨Q1, [(qk Q).1], ⟨1 + k1, S2, by omega, fun n => ?_, b2, x4.tr b3 (fun _ z => z) (fun _ z => z)⟩, by omega, by omega, ⟨by omega, by omega, by omega, by omega, by omega⟩, kp, y6, rfl, ?_, fun X hX hL k hk => ?_, fun X hX f hf => ?_⟩
          · rw [← Nat.add_assoc, x2, b1]
          · simp only [List.all_cons, List.all_nil, Bool.and_true]
            exact y7.symm
          · rw [List.mem_singleton.mp hk]; exact ok X hX hL
          · simp only [List.map_cons, List.map_nil]
            rw [sem X hX f hf]
        · rw [if_neg e93]
          refine ⟨fun xs p' hq => (nomatch hq), fun w' hq => ?_⟩
          cases hq
          exact (n3 hn e93).of (k := k1) (by omega) x2 x4
/-- a name behind a dot -/
theorem e_nmLoop {t : List Nat} (ht : tOk t) (N : Nat) {x1 x3 : Int32} {b : Nat} (hb : b < 1000) : ∀ (k n p : Nat) (S : md_S), rT t p S → p + k = b + 8 → b ≤ p → p ≤ t.length → k + 3 ≤ n →
    (¬ isLt t (nmL t k p) → ∃ S', mo_readMore_l184 N n x1 x3 (nI b) S = mo_readMore_j236 N x1 x3 (nI b) S' ∧ rT t (nmL t k p) S' ∧ rF [6] S S') ∧
    (isLt t (nmL t k p) → ∃ S', mo_readMore_l184 N n x1 x3 (nI b) S = mo_readMore_j236 N x1 x3 (nI b) S' ∧ rI b S' ∧ rF [6, 7] S S') := by
  have h160 := ht.1
  intro k
  induction k with
  | zero =>
    intro n p S h hk hbp hp hn
    obtain ⟨n, rfl⟩ : ∃ m, n = m + 2 := ⟨n - 2, by omega⟩
    rw [mo_readMore_l184, e_good h.2.2]
    simp only [md_bs]
    rw [if_neg (by decide), e_atp h ht (by omega)]
    simp only [md_bs]
    rw [e_lt ht]
    simp only [md_bs, i01, nmL, md_lx]
    refine ⟨fun hd => ?_, fun hd => ?_⟩
    · rw [if_pos hd]
      exact ⟨S, rfl, h, rF.rf⟩
    · rw [if_neg (fun z => z hd), if_pos (show S.1 6 - nI b = 8 by rw [h.2.1, pk_sub hbp, show p - b = 8 by omega]; rfl), e_fail h.2.2]
      simp only [md_cs]
      have hi : rI b (md_p (md_p S 7 (nI b)) 6 ((md_p S 7 (nI b)).1 6 + 1)) := by
        unfold rI
        rw [md_p1, if_neg (by decide), md_p1, if_pos rfl]
      rw [mo_readMore_l184, e_ill hi hb]
      simp only [md_bs, if_true]
      exact ⟨_, rfl, hi, (rF.rf.p (by decide)).p (by decide)⟩
  | succ k ih =>
    intro n p S h hk hbp hp hn
    obtain ⟨n, rfl⟩ : ∃ m, n = m + 2 := ⟨n - 2, by omega⟩
    rw [mo_readMore_l184, e_good h.2.2]
    simp only [md_bs]
    rw [if_neg (by decide), e_atp h ht (by omega)]
    simp only [md_bs]
    rw [e_lt ht]
    simp only [md_bs, i01, nmL, md_lx]
    by_cases hd : isLt t p
    · have hlt := isLt_lt hd
      rw [if_pos hd, if_neg (show ¬ ¬ isLt t p from fun z => z hd)]
      have n8 : ¬ S.1 6 - nI b = 8 := fun z => by
        rw [h.2.1, pk_sub hbp] at z
        have := (nI_eq (a := p - b) (b := 8) (by omega) (by omega)).mp z
        omega
      rw [if_neg n8]
      obtain ⟨i1, i2⟩ := ih (n + 1) (p + 1) _ h.i (by omega) (by omega) (by omega) (by omega)
      refine ⟨fun z => ?_, fun z => ?_⟩
      · obtain ⟨S', a, b', c⟩ := i1 z
        exact ⟨S', a, b', (rF.rf.p (K := [6]) (by decide)).tr c (fun _ z => z) (fun _ z => z)⟩
      · obtain ⟨S', a, b', c⟩ := i2 z
        exact ⟨S', a, b', (rF.rf.p (K := [6, 7]) (by decide)).tr c (fun _ z => z) (fun _ z => z)⟩
    · rw [if_neg hd, if_pos hd]
      exact ⟨fun _ => ⟨S, rfl, h, rF.rf⟩, fun z => absurd z hd⟩
theorem nmL_8 {t : List Nat} : ∀ {k p : Nat}, nmL t k p ≤ p + k
  | 0, p => Nat.le_refl _
  | k + 1, p => by
    unfold nmL
    split
    · have := nmL_8 (t := t) (k := k) (p := p + 1); omega
    · omega
def rlG (t : List Nat) (nv : Nat) (Q : cQ) (a : Nat) (Q' : cQ) (x : (Bool × List dSel) × Bool) : Prop := kpQ (some a) none none Q Q' ∧ (qg Q).1 < (qg Q').1 ∧ (qp Q').2.2 a = (qp Q).2.2 a ++ [(qg Q).1] ∧ sgl Q' (qg Q).1 = x.2 ∧ (∀ X, agr Q Q' X → ∀ f, nv ≤ f → segE t (evP t X f) X (qg Q).1 = x.1) ∧ ∀ X, agr Q Q' X → leQ Q' X → ∀ k, k ∈ (qg X).2.2 (qg Q).1 → okK t X (okP t X nv) ((qk X).2 k)
theorem SGl {t : List Nat} (ht : tOk t) {N nv : Nat} (hN : 161 ≤ N) (hnv : nv ≤ 4) (hlo : ∀ m, nv = m + 1 → AN t N m) : ∀ (p : Nat) (Q : cQ) (a : Nat) (td : tdL) (S : md_S), rR t p Q ((0, nI a, 0) :: td) (4 - nv) S → a < (qp Q).1 → (5 * (qp Q).1 ≤ 2 * p + 4 ∧ 13 * (qc Q).1 + 4 ≤ 4 * p + 4 * (4 - nv) ∧ (qg Q).1 ≤ p ∧ (qk Q).1 ≤ p ∧ (qo Q).1 ≤ p) → td.length + 20 * nv + 6 ≤ 400 → p ≤ t.length → lk t p = 46 ∨ lk t p = 91 →
    (∀ x p', qSeg t (loV t nv) p = .inl (x, p') → ∃ Q', gdR t N p S ((0, nI a, 0) :: td) (4 - nv) p' Q' 0 0 ∧ p < p' ∧ p' ≤ t.length ∧ grwS 0 0 Q p Q' p' ∧ rlG t nv Q a Q' x) ∧
    (∀ w, qSeg t (loV t nv) p = .inr w → baR t N p S w 40) := by
  have h160 := ht.1
  intro p Q a td S hR ha hE htd hp hc
  obtain ⟨z1, z2, z3, z4, z5⟩ := hE
  have hR0 := hR.pop
  have hst := qL_st (N := N) hR.1.2.2 hR.2.2.1
  obtain ⟨S0, hS0⟩ : ∃ S0, S0 = md_p S 55 (nI td.length) := ⟨_, rfl⟩
  have f0 : rF KR S S0 := by
    rw [hS0]
    exact rF.rf.p (by decide)
  rw [← hS0] at hR0 hst
  have hlt : p < t.length := lk_lt (rfl : lk t p = lk t p) (by omega)
  obtain ⟨PR, hPR⟩ : ∃ PR, PR = mo_readMore N (nI a) S0 := ⟨_, rfl⟩
  have hst1 : ∀ n, qL N (n + 1) S = md_c PR fun S' => qL N n S' := fun n => by rw [hst, rqp0, hPR]
  have ill : ∀ {w : Nat} {S' : md_S}, PR = some S' → rI w S' → w < 1000 → rF KR S0 S' → baR t N p S w 40 := fun {w S'} a b d f => by
    refine ⟨2, S', by omega, fun n => ?_, b, d, f0.tr f (fun _ z => z) (fun _ z => z)⟩
    rw [show n + 2 = (n + 1) + 1 from rfl, hst1, a]
    exact qL_ill hN b d
  -- where the segment's own letters begin
  have start : ∃ (dot bw : Bool) (p2 : Nat) (S1 : md_S), dot = (lk t p == 46) ∧ bw = (lk t p == 46 && lk t (p + 1) == 46) ∧ p2 = (if lk t p = 46 then (if lk t (p + 1) = 46 then p + 2 else p + 1) else p) ∧ rR t p2 Q td (4 - nv) S1 ∧ rF [6] S0 S1 ∧ p2 ≤ t.length ∧ p ≤ p2 ∧ (dot = true → p < p2) ∧ PR = (if lk t p2 = 91 ∧ (dot = false ∨ bw = true) then mo_readMore_j104 N (nI a) (bI bw) S1 else mo_readMore_j127 N (nI a) (bI bw) (aT t p2) S1) := by
    have j73 : ∀ {y0 : Nat} {bw dot : Bool}, p + y0 ≤ t.length → (dot = (lk t p == 46)) → ∃ S1, rR t (p + y0) Q td (4 - nv) S1 ∧ rF [6] S0 S1 ∧ mo_readMore_j73 N (nI a) (aT t p) (bI bw) (nI y0) (S0.1 6) S0 = (if lk t (p + y0) = 91 ∧ (dot = false ∨ bw = true) then mo_readMore_j104 N (nI a) (bI bw) S1 else mo_readMore_j127 N (nI a) (bI bw) (aT t (p + y0)) S1) := fun {y0 bw dot} hy hd => by
      have f1 : rF [6] S0 (md_p S0 6 (nI (p + y0))) := rF.rf.p (by decide)
      have hR1 := hR0.t6 hR0.1.at f1 (fun k z => by simp at z; omega) (p' := p + y0)
      refine ⟨_, hR1, f1, ?_⟩
      unfold mo_readMore_j73
      simp only [md_lx]
      rw [hR0.1.2.1, nI_add, e_atp hR1.1 ht (by omega)]
      simp only [md_bs, aT_91 ht]
      by_cases e1 : lk t (p + y0) = 91
      · rw [if_pos e1]
        cases bw with
        | true => rw [if_neg (by decide), if_pos ⟨e1, Or.inr rfl⟩]
        | false =>
          rw [if_pos (by rfl)]
          by_cases e2 : lk t p = 91
          · rw [if_pos e2, if_pos ⟨e1, Or.inl (by rw [hd, e2]; rfl)⟩]
          · have e3 : lk t p = 46 := by omega
            rw [if_neg e2, if_neg (fun z => z.2.elim (fun y => by rw [hd, e3] at y; exact absurd y (by decide)) (fun y => nomatch y))]
      · rw [if_neg e1, if_neg (fun z => e1 z.1)]
    have ur : PR = mo_readMore_j22 N (nI a) (aT t p) S0 := by
      rw [hPR]
      unfold mo_readMore
      rw [e_atp hR0.1 ht (by omega)]
      simp only [md_bs, aT_46 ht, aT_91 ht]
      rcases hc with e | e
      · rw [if_pos e]
      · rw [if_neg (by omega), if_pos e]
    unfold mo_readMore_j22 mo_readMore_j47 mo_readMore_j48 at ur
    simp only [aT_46 ht] at ur
    by_cases e46 : lk t p = 46
    · rw [if_pos e46, hR0.1.2.1, nI_1, e_at hR0.1.1 ht (by omega)] at ur
      simp only [md_bs, aT_46 ht] at ur
      by_cases e2 : lk t (p + 1) = 46
      · have hlt2 := lk_lt e2 (by decide)
        rw [if_pos e2, if_neg (by decide)] at ur
        obtain ⟨S1, b1, b2, b3⟩ := j73 (y0 := 2) (bw := true) (dot := true) (by omega) (by rw [e46]; rfl)
        exact ⟨true, true, p + 2, S1, by rw [e46]; rfl, by rw [e46, e2]; rfl, by rw [if_pos e46, if_pos e2], b1, b2, by omega, by omega, fun _ => by omega, ur.trans b3⟩
      · rw [if_neg e2, if_true, if_pos e46] at ur
        obtain ⟨S1, b1, b2, b3⟩ := j73 (y0 := 1) (bw := false) (dot := true) (by omega) (by rw [e46]; rfl)
        exact ⟨true, false, p + 1, S1, by rw [e46]; rfl, by simp [e46, e2], by rw [if_pos e46, if_neg e2], b1, b2, by omega, by omega, fun _ => by omega, ur.trans b3⟩
    · rw [if_neg e46, if_true, if_neg e46] at ur
      obtain ⟨S1, b1, b2, b3⟩ := j73 (y0 := 0) (bw := false) (dot := false) (by omega) (by simp [e46])
      exact ⟨false, false, p, S1, by simp [e46], by simp [e46], by rw [if_neg e46], b1, b2, hp, Nat.le_refl _, fun z => (nomatch z), ur.trans b3⟩
  obtain ⟨dot, bw, p2, S1, hd, hb, hp2, hR1, f1, h2l, hpp, hdp, hPR2⟩ := start
  have f1' : rF KR S S1 := f0.tr f1 (fun _ z => z) (by decide)
  have spec : qSeg t (loV t nv) p = (if lk t p2 = 91 ∧ (dot = false ∨ bw = true) then rB (qSels t (loV t nv) 4 (p2 + 1)) fun ss p3 => .inl (((bw, ss.map (·.1)), !bw && ss.length == 1 && ss.all (·.2)), p3)
    else if lk t p2 = 42 then .inl (((bw, [sAll]), false), p2 + 1)
    else match rdM t p2 with
      | .inr w => .inr w
      | .inl p3 => .inl (((bw, [sNamed (sl t p2 (p3 - p2))]), !bw), p3)) := by
    rw [hd, hb, hp2]
    rfl
  rw [spec]
  -- a segment of one selector
  have one : ∀ {p3 : Nat} {S2 : md_S} {k : Int32 × Int32 × Int32 × Int32 × Int32} {x : dSel} {fl : Bool}, rR t p3 Q ((0, nI a, 0) :: td) (4 - nv) S2 → rF KR S S2 → p + 1 < p3 ∨ (p < p3) → p3 ≤ t.length → (∀ X P, okK t X P k) → (∀ rec X, selE t rec X k = x) → (fl = (!bw && (k.1 == 0 || k.1 == 2))) → (PR = md_b (mo_newSegment (nI a) (bI bw) S2) fun v S3 => md_b (mo_newSelector v k.1 k.2.1 k.2.2.1 k.2.2.2.1 k.2.2.2.2 S3) fun _ S4 => some S4) → ∃ Q', gdR t N p S ((0, nI a, 0) :: td) (4 - nv) p3 Q' 0 0 ∧ p < p3 ∧ p3 ≤ t.length ∧ grwS 0 0 Q p Q' p3 ∧ rlG t nv Q a Q' ((bw, [x]), fl) := fun {p3 S2 k x fl} b f hlt3 h3l hkk hx hfl e => by
    obtain ⟨S3, c1, c2, c3⟩ := b.seg (a := a) (bw := bw) ha (by omega)
    rw [c1] at e
    simp only [md_bs] at e
    obtain ⟨S4, d1, d2, d3⟩ := c2.sel (s := (qg Q).1) (x2 := k.1) (x3 := k.2.1) (x4 := k.2.2.1) (x5 := k.2.2.2.1) (x6 := k.2.2.2.2) (Nat.lt_succ_self _) (by show (qk Q).1 < 170; omega)
    rw [d1] at e
    simp only [md_bs] at e
    have hkp : kpQ (some a) none none Q (nSel (nSeg Q a bw) (qg Q).1 k) := (kp_seg (a := a)).tr (kp_sel (s := (qg Q).1)) (fun b z => (nomatch z)) (fun b z h => by cases z; exact absurd h (Nat.lt_irrefl _)) (fun b z => (nomatch z))
    have eg : (qg (nSel (nSeg Q a bw) (qg Q).1 k)).2.2 (qg Q).1 = [(qk Q).1] := by
      show updL (updL (qg Q).2.2 (qg Q).1 []) (qg Q).1 (updL (qg Q).2.2 (qg Q).1 [] (qg Q).1 ++ [(qk Q).1]) (qg Q).1 = _
      rw [updL_s, updL_s]; rfl
    have eg1 : (qg (nSel (nSeg Q a bw) (qg Q).1 k)).2.1 (qg Q).1 = (bw, a) := updL_s
    have ekk : (qk (nSel (nSeg Q a bw) (qg Q).1 k)).2 (qk Q).1 = k := updL_s
    refine ⟨nSel (nSeg Q a bw) (qg Q).1 k, ⟨1, S4, by omega, fun n => ?_, d2, (f.tr c3 (fun _ z => z) (by decide)).tr d3 (fun _ z => z) (by decide)⟩, by omega, h3l, ⟨by show 5 * (qp Q).1 + _ ≤ _; omega, by show 13 * (qc Q).1 + _ ≤ _; omega, by show (qg Q).1 + 1 + _ ≤ _; omega, by show (qk Q).1 + 1 + _ ≤ _; omega, by show (qo Q).1 + _ ≤ _; omega⟩, hkp, Nat.lt_succ_self _, updL_s, ?_, fun X hX f' hf => ?_, fun X hX hL k' hk' => ?_⟩
    · rw [hst1, e]; rfl
    · unfold sgl
      rw [eg, eg1]
      simp only [List.length_singleton, beq_self_eq_true, Bool.and_true, List.all_cons, List.all_nil, ekk]
      rw [hfl]
    · have h1 := hX.2.1 (qg Q).1 (Nat.le_refl _) (Nat.lt_succ_self _)
      have h2 := hX.2.2.1 (qk Q).1 (Nat.le_refl _) (Nat.lt_succ_self _)
      unfold segE
      rw [h1.1, h1.2, eg, eg1]
      simp only [List.map_cons, List.map_nil]
      rw [h2, ekk, hx]
    · have h1 := hX.2.1 (qg Q).1 (Nat.le_refl _) (Nat.lt_succ_self _)
      have h2 := hX.2.2.1 (qk Q).1 (Nat.le_refl _) (Nat.lt_succ_self _)
      rw [h1.2, eg] at hk'
      rw [List.mem_singleton.mp hk', h2, ekk]
      exact hkk _ _
  by_cases cb : lk t p2 = 91 ∧ (dot = false ∨ bw = true)
  · rw [if_pos cb] at hPR2 ⊢
    have hlt2 := lk_lt cb.1 (by decide)
    unfold mo_readMore_j104 at hPR2
    simp only [md_lx, md_ci] at hPR2
    obtain ⟨S2, b1, b2, b3⟩ := hR1.i.seg (a := a) (bw := bw) ha (by omega)
    rw [b1] at hPR2
    simp only [md_bs] at hPR2
    obtain ⟨S3, c1, c2, c3⟩ := b2.push (x := 1) (y := nI (qg Q).1) (z := 0) (by omega)
    rw [c1] at hPR2
    have f3 : rF KR S S3 := (((f1'.p (by decide)).tr b3 (fun _ z => z) (by decide))).tr c3 (fun _ z => z) (by decide)
    have hs3 : ∀ n, qL N (n + 1) S = qL N n S3 := fun n => by rw [hst1, hPR2]; rfl
    have el0 : (qg (nSeg Q a bw)).2.2 (qg Q).1 = [] := updL_s
    have el1 : (qg (nSeg Q a bw)).2.1 (qg Q).1 = (bw, a) := updL_s
    obtain ⟨g1, g2⟩ := SSl ht hN hnv hlo 4 (p2 + 1) (nSeg Q a bw) (qg Q).1 td S3 c2 (Nat.lt_succ_self _) (by rw [el0]; rfl) (by
      rw [el0]
      exact ⟨by show 5 * (qp Q).1 ≤ _; omega, by show 13 * (qc Q).1 + 8 ≤ _; simp; omega, by show (qg Q).1 + 1 ≤ _; omega, by show (qk Q).1 ≤ _; omega, by show (qo Q).1 ≤ _; omega⟩) htd (by omega) (by omega)
    rw [el0, el1] at g1
    cases hr : qSels t (loV t nv) 4 (p2 + 1) with
    | inr w =>
      refine ⟨fun x p' hq => (nomatch hq), fun w' hq => ?_⟩
      cases hq
      exact (g2 w hr).of (k := 1) (by omega) hs3 f3
    | inl q =>
      obtain ⟨xs, p3⟩ := q
      refine ⟨fun x p' hq => ?_, fun w' hq => (nomatch hq)⟩
      cases hq
      obtain ⟨Q1, kl, ⟨k, S4, w1, w2, w3, w4⟩, u1, u2, ⟨m1, m2, m3, m4, m5⟩, kp, u5, u6, u7, ok, sem⟩ := g1 xs p3 hr
      have m1' : 5 * (qp Q1).1 + 2 * (p2 + 1) ≤ 2 * p3 + 5 * (qp Q).1 + 0 := m1
      have m2' : 13 * (qc Q1).1 + 4 * (p2 + 1) ≤ 4 * p3 + 13 * (qc Q).1 + 4 := m2
      have m3' : (qg Q1).1 + (p2 + 1) ≤ (qg Q).1 + 1 + p3 := m3
      have m4' : (qk Q1).1 + (p2 + 1) ≤ (qk Q).1 + p3 := m4
      have m5' : (qo Q1).1 + (p2 + 1) ≤ (qo Q).1 + p3 := m5
      have hkp : kpQ (some a) none none Q Q1 := (kp_seg (a := a) (bw := bw)).tr kp (fun b z => (nomatch z)) (fun b z h => by cases z; exact absurd h (Nat.lt_irrefl _)) (fun b z => (nomatch z))
      have eg1 : (qg Q1).2.1 (qg Q).1 = (bw, a) := ((kp.2.2.1 (qg Q).1 (Nat.lt_succ_self _)).1).trans el1
      have hkl : (qg Q1).2.2 (qg Q).1 = kl := by rw [u5]; rfl
      have hlt1 : (qg Q).1 < (qg Q1).1 := Nat.lt_of_lt_of_le (Nat.lt_succ_self _) kp.1.2.1
      refine ⟨Q1, ⟨k + 1, S4, by omega, fun n => ?_, w3, f3.tr w4 (fun _ z => z) (fun _ z => z)⟩, by omega, u2, ⟨by omega, by omega, by omega, by omega, by omega⟩, hkp, hlt1, ?_, ?_, fun X hX f hf => ?_, fun X hX hL k' hk' => ?_⟩
      · rw [← Nat.add_assoc, hs3, w2]
      · exact ((kp.2.1 a ha).2 (fun z => nomatch z)).trans updL_s
      · unfold sgl
        rw [eg1, hkl, u6]
        show (!bw && xs.length == 1 && kl.all (knd Q1)) = _
        rw [u7]
      · have h1 := hX.2.1 (qg Q).1 (Nat.le_refl _) hlt1
        have hX1 : agr (nSeg Q a bw) Q1 X := hX.sub (kp_seg (a := a) (bw := bw)).1 leQ.rf agr.rf
        unfold segE
        rw [h1.1, h1.2, eg1, hkl, sem X hX1 f hf]
      · have h1 := hX.2.1 (qg Q).1 (Nat.le_refl _) hlt1
        have hX1 : agr (nSeg Q a bw) Q1 X := hX.sub (kp_seg (a := a) (bw := bw)).1 leQ.rf agr.rf
        rw [h1.2, hkl] at hk'
        exact ok X hX1 hL k' hk'
  · rw [if_neg cb] at hPR2 ⊢
    unfold mo_readMore_j127 at hPR2
    obtain ⟨S2, b1, b2, b3⟩ := hR1.push (x := 0) (y := nI a) (z := 0) (by omega)
    rw [b1] at hPR2
    simp only [md_cs, aT_42 ht] at hPR2
    have f2 : rF KR S S2 := f1'.tr b3 (fun _ z => z) (by decide)
    have f2' : rF KR S0 S2 := (f1.mn (K := KR) (by decide)).tr b3 (fun _ z => z) (by decide)
    by_cases c42 : lk t p2 = 42
    · rw [if_pos c42] at hPR2 ⊢
      refine ⟨fun x p' hq => ?_, fun w' hq => (nomatch hq)⟩
      cases hq
      have hlt2 := lk_lt c42 (by decide)
      simp only [md_lx] at hPR2
      exact one (k := (1, 0, 0, 0, 0)) b2.i (f2.p (by decide)) (by omega) (by omega) (fun X P => Or.inr (Or.inl rfl)) (fun rec X => rfl) (by cases bw <;> rfl) hPR2
    · rw [if_neg c42] at hPR2 ⊢
      rw [e_lt ht] at hPR2
      simp only [md_bs, i01] at hPR2
      unfold rdM
      by_cases gl : isLt t p2
      · rw [if_neg (fun z => z gl)] at hPR2 ⊢
        rw [b2.1.2.1] at hPR2
        obtain ⟨l1, l2⟩ := e_nmLoop ht N (x1 := nI a) (x3 := bI bw) (b := p2) (by omega) 8 N p2 S2 b2.1 (by omega) (by omega) h2l (by omega)
        by_cases g9 : isLt t (nmL t 8 p2)
        · rw [if_pos g9]
          refine ⟨fun x p' hq => (nomatch hq), fun w' hq => ?_⟩
          cases hq
          obtain ⟨S3, c1, c2, c3⟩ := l2 g9
          rw [c1] at hPR2
          unfold mo_readMore_j236 at hPR2
          obtain ⟨S4, d1, d2, d3⟩ := e_newSeg (bw := bw) (b2.2.1.f c3 (fun k h1 h2 _ _ z => by simp at z; omega)) ha (by omega)
          rw [d1] at hPR2
          simp only [md_bs] at hPR2
          obtain ⟨S5, g1, g2, g3⟩ := e_newSel (s := (qg Q).1) (x2 := 0) (x3 := nI p2) (x4 := S4.1 6 - nI p2) (x5 := 0) (x6 := 0) d2 (Nat.lt_succ_self _) (by show (qk Q).1 < 170; omega)
          rw [g1] at hPR2
          simp only [md_bs] at hPR2
          exact ill hPR2 (by unfold rI; rw [(g3 7 (by decide)).1, (d3 7 (by decide)).1]; exact c2) (by omega) (((f2'.tr c3 (fun _ z => z) (by decide)).tr d3 (fun _ z => z) (by decide)).tr g3 (fun _ z => z) (by decide))
        · rw [if_neg g9]
          refine ⟨fun x p' hq => ?_, fun w' hq => (nomatch hq)⟩
          cases hq
          obtain ⟨S3, c1, c2, c3⟩ := l1 g9
          rw [c1] at hPR2
          unfold mo_readMore_j236 at hPR2
          have hR3 := b2.t6 c2 c3 (fun k z => by simp at z; omega)
          have hge : p2 < nmL t 8 p2 := by
            show p2 < nmL t (7 + 1) p2
            rw [nmL, if_pos gl]
            have := nmL_ge (t := t) (k := 7) (p := p2 + 1)
            omega
          have hle := nmL_le (t := t) (k := 8) (p := p2) h2l
          obtain ⟨S4, d1, d2, d3⟩ := hR3.seg (a := a) (bw := bw) ha (by omega)
          have e4 : S4.1 6 - nI p2 = nI (nmL t 8 p2 - p2) := by rw [d2.1.2.1, pk_sub (by omega)]
          refine one (k := (0, nI p2, nI (nmL t 8 p2 - p2), 0, 0)) (x := sNamed (sl t p2 (nmL t 8 p2 - p2))) hR3 (f2.tr c3 (fun _ z => z) (by decide)) (by omega) hle (fun X P => Or.inl ⟨rfl, p2, nmL t 8 p2 - p2, rfl, rfl, by omega, by have := nmL_8 (t := t) (k := 8) (p := p2); omega⟩) (fun rec X => ?_) (by cases bw <;> rfl) ?_
          · unfold selE
            simp only [nI_clamp (show p2 < 2 ^ 31 by omega), nI_clamp (show nmL t 8 p2 - p2 < 2 ^ 31 by omega), if_true]
          · rw [hPR2, d1]
            simp only [md_bs, e4]
      · rw [if_pos gl] at hPR2 ⊢
        rw [e_fail b2.1.2.2] at hPR2
        refine ⟨fun x p' hq => (nomatch hq), fun w' hq => ?_⟩
        cases hq
        refine ill hPR2 ?_ (by omega) (f2'.p (by decide))
        unfold rI
        rw [md_p1, if_pos rfl]; exact b2.1.2.1
