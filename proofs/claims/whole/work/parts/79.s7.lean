def loV (t : List Nat) (nv : Nat) : Option Lv := match nv with
  | 0 => none
  | m + 1 => some (qLv t m)
theorem qLv_eq {t : List Nat} {nv : Nat} : qLv t nv = (qTst t (loV t nv), qPath t (loV t nv), qThg t (loV t nv)) := by cases nv <;> rfl
theorem e_word6L {t v : List Nat} (ht : tOk t) (N : Nat) {x1 : Int64} (hx : ∀ m, m < v.length → (x1 >>> ((8 * nI m).toInt64 &&& 63) &&& 255).toInt32 = nI (lk v (v.length - 1 - m))) (hv : ∀ j, j < v.length → lk v j ≠ 0 ∧ lk v j < 128) (hv2 : v.length < 50) : ∀ (m n i p : Nat) (S : md_S), rT t p S → p ≤ t.length → i + m = v.length → m + 1 ≤ n → ∀ w, exW t v m i p = .inr w → ∃ S', mo_word_l5 N n x1 (nI m - 1) S = some S' ∧ S'.1 6 = nI w ∧ w ≤ t.length := by
  intro m
  have h160 := ht.1
  induction m with
  | zero => intro n i p S h hp hi hn w hw; cases hw
  | succ m ih =>
    intro n i p S h hp hi hn w hw
    obtain ⟨n, rfl⟩ : ∃ k, n = k + 1 := ⟨n - 1, by omega⟩
    rw [exW] at hw
    rw [mo_word_l5, nI_pred, if_neg (nI_pos (by omega)), hx m (by omega), show v.length - 1 - m = i by omega]
    have hc := hv i (by omega)
    rw [show nI m + (-1) = nI m - 1 from (Int32.sub_eq_add_neg _ _).symm]
    rcases e_need ht h hp hc.1 (show lk v i < 1000 by omega) with ⟨e, S', a, b, c⟩ | ⟨e, S', a, b, c⟩
    · rw [if_pos e] at hw
      rw [a]
      simp only [md_cs]
      have := lk_lt e hc.1
      exact ih n (i + 1) (p + 1) S' b (by omega) (by omega) (by omega) w hw
    · rw [if_neg e] at hw
      cases hw
      rw [a]
      simp only [md_cs]
      exact ⟨S', e_word2 N (by omega) m n S' b (by omega) (by omega), by rw [(c 6 (by decide)).1]; exact h.2.1, hp⟩
theorem e_word6 {t v : List Nat} (ht : tOk t) {N p w : Nat} {x1 : Int64} {S : md_S} (hx : ∀ m, m < v.length → (x1 >>> ((8 * nI m).toInt64 &&& 63) &&& 255).toInt32 = nI (lk v (v.length - 1 - m))) (hv : ∀ j, j < v.length → lk v j ≠ 0 ∧ lk v j < 128) (hv2 : v.length < 50) (h : rT t p S) (hp : p ≤ t.length) (hN : 161 ≤ N) (hw : exW t v v.length 0 p = .inr w) : ∃ S', mo_word N x1 (nI v.length) S = some S' ∧ rI w S' ∧ w < 1000 ∧ S'.1 6 = nI w ∧ w ≤ t.length ∧ rF [6, 7] S S' := by
  obtain ⟨S', a, b, c, d⟩ := (e_word ht (N := N) hx hv hv2 h hp hN).2 w hw
  obtain ⟨S2, a2, b2, c2⟩ := e_word6L ht N hx hv hv2 v.length N 0 p S h hp (by omega) (by omega) w hw
  have : S2 = S' := Option.some.inj (a2.symm.trans a)
  subst this
  exact ⟨S2, a, b, c, b2, c2, d⟩
/-- a bracket that opens: good, or too deep, or not there -/
theorem e_bracket {t : List Nat} (ht : tOk t) {p ne : Nat} {Q : cQ} {td : tdL} {S : md_S} (h : rR t p Q td ne S) (hp : p ≤ t.length) (hne : ne ≤ 4) :
    (lk t p = 40 → ne < 4 → ∃ S', mo_bracket S = some S' ∧ rR t (p + 1) Q td (ne + 1) S' ∧ rF [6, 31] S S') ∧
    (¬ (lk t p = 40 ∧ ne < 4) → ∃ S', mo_bracket S = some S' ∧ rI p S' ∧ S'.1 6 = nI p ∧ rF [6, 7, 31] S S') := by
  have h160 := ht.1
  unfold mo_bracket mo_bracket_j17
  rw [e_atp h.1 ht (by omega)]
  simp only [md_bs, aT_40 ht]
  refine ⟨fun e hn => ?_, fun e => ?_⟩
  · rw [if_pos e]
    unfold mo_opens mo_opens_j16
    have n4 : ¬ S.1 31 = 4 := fun z => by
      rw [h.2.2.2] at z
      have := (nI_eq (a := ne) (b := 4) (by omega) (by omega)).mp z
      omega
    rw [if_neg n4]
    simp only [md_lx, md_cs]
    have f0 : rF [31] S (md_p S 31 (S.1 31 + 1)) := rF.rf.p (by decide)
    have hT := h.1.f f0 (by decide) (by decide) (by decide) (by decide)
    rcases e_need ht (c := 40) hT hp (by decide) (by decide) with ⟨_, S', a, b, c⟩ | ⟨e2, _⟩
    · rw [show (40 : Int32) = nI 40 from rfl, a]
      have f : rF [6, 31] S S' := f0.tr c (by decide) (by decide)
      refine ⟨S', rfl, ⟨b, h.2.1.f f (fun k h1 h2 h3 _ z => by simp at z; omega), h.2.2.1.f f (by decide) (by decide) (by decide) (by decide), ?_⟩, f⟩
      rw [(c 31 (by decide)).1, md_p1, if_pos rfl, h.2.2.2, nI_1]
    · exact absurd e e2
  · by_cases e1 : lk t p = 40
    · rw [if_pos e1]
      have hne4 : ne = 4 := by omega
      unfold mo_opens mo_opens_j16
      rw [if_pos (by rw [h.2.2.2, hne4]; rfl), e_fail h.1.2.2]
      simp only [md_cs, md_lx]
      obtain ⟨S1, hS1⟩ : ∃ S1, S1 = md_p (md_p S 7 (S.1 6)) 31 ((md_p S 7 (S.1 6)).1 31 + 1) := ⟨_, rfl⟩
      rw [← hS1]
      have hi : rI p S1 := by
        unfold rI
        rw [hS1, md_p1, if_neg (by decide), md_p1, if_pos rfl]; exact h.1.2.1
      rw [e_need2 hi (by omega)]
      refine ⟨S1, rfl, hi, ?_, ?_⟩
      · rw [hS1, md_p1, if_neg (by decide), md_p1, if_neg (by decide)]; exact h.1.2.1
      · rw [hS1]
        exact (rF.rf.p (by decide)).p (by decide)
    · rw [if_neg e1]
      rcases e_need ht (c := 40) h.1 hp (by decide) (by decide) with ⟨e2, _⟩ | ⟨_, S', a, b, c⟩
      · exact absurd e2 e1
      · rw [show (40 : Int32) = nI 40 from rfl, a]
        exact ⟨S', rfl, b, by rw [(c 6 (by decide)).1]; exact h.1.2.1, c.mn (by decide)⟩
theorem e_bracketI {t : List Nat} (ht : tOk t) {p w : Nat} {S : md_S} (hX : rX t S) (h6 : S.1 6 = nI p) (hi : rI w S) (hw : w < 1000) (hp : p < 1000) (h31 : ∃ ne, S.1 31 = nI ne) : ∃ S', mo_bracket S = some S' ∧ rI w S' ∧ S'.1 6 = nI p ∧ rF [7, 31] S S' := by
  unfold mo_bracket mo_bracket_j17
  rw [h6, e_at hX ht hp]
  simp only [md_bs]
  split
  · unfold mo_opens mo_opens_j16
    have key : ∀ S1 : md_S, rI w S1 → S1.1 6 = nI p → rF [7, 31] S S1 → ∃ S', (md_c (some (md_p S1 31 (S1.1 31 + 1))) fun S14 => md_c (mo_need 40 S14) fun S20 => some S20) = some S' ∧ rI w S' ∧ S'.1 6 = nI p ∧ rF [7, 31] S S' := fun S1 a b c => by
      simp only [md_cs]
      have hi2 : rI w (md_p S1 31 (S1.1 31 + 1)) := by unfold rI; rw [md_p1, if_neg (by decide)]; exact a
      rw [e_need2 hi2 hw]
      exact ⟨_, rfl, hi2, by rw [md_p1, if_neg (by decide)]; exact b, c.p (by decide)⟩
    split
    · rw [e_fail2 hi hw, md_pp]
      simp only [md_cs, md_lx]
      exact key S hi h6 rF.rf
    · simp only [md_lx]
      exact key S hi h6 rF.rf
  · rw [e_need2 hi hw]
    exact ⟨S, rfl, hi, h6, rF.rf⟩
/-- a thing's path, or the place where it should be -/
theorem e_pathThing {t : List Nat} (ht : tOk t) {p ne c : Nat} {Q : cQ} {td : tdL} {S : md_S} {x2 : Int32} (h : rR t p Q td ne S) (hp : p ≤ t.length) (hl : (qp Q).1 < 100) (htd : td.length + 2 ≤ 400) :
    (isPt t p → ∃ S', mo_readPathThing (nI c) x2 S = some S' ∧ rR t (p + 1) (nPath Q p (lk t p == 36)) ((0, nI (qp Q).1, 0) :: (x2, nI c, nI (qp Q).1) :: td) ne S' ∧ rF KR S S') ∧
    (¬ isPt t p → ∃ S', mo_readPathThing (nI c) x2 S = some S' ∧ rI p S' ∧ rF KR S S') := by
  have h160 := ht.1
  unfold mo_readPathThing mo_readPathThing_j37 mo_readPathThing_j28
  rw [e_atp h.1 ht (by omega)]
  simp only [md_bs]
  rw [e_good h.1.2.2]
  simp only [md_bs, aT_64 ht, aT_36 ht]
  rw [if_neg (by decide)]
  have good : ∀ rt : Bool, ∃ S', mo_readPathThing_j49 (nI c) x2 (bI rt) S = some S' ∧ rR t (p + 1) (nPath Q p rt) ((0, nI (qp Q).1, 0) :: (x2, nI c, nI (qp Q).1) :: td) ne S' ∧ rF KR S S' := fun rt => by
    unfold mo_readPathThing_j49
    obtain ⟨S1, a1, a2, a3⟩ := h.path (rt := rt) hl
    rw [a1]
    simp only [md_bs]
    obtain ⟨S2, b1, b2, b3⟩ := a2.push (x := x2) (y := nI c) (z := nI (qp Q).1) (by omega)
    rw [b1]
    simp only [md_cs]
    obtain ⟨S3, c1, c2, c3⟩ := b2.push (x := 0) (y := nI (qp Q).1) (z := 0) (by simp; omega)
    rw [c1]
    exact ⟨S3, rfl, c2, ((a3.mn (K := KR) (by decide)).tr b3 (fun _ z => z) (by decide)).tr c3 (fun _ z => z) (by decide)⟩
  refine ⟨fun e => ?_, fun e => ?_⟩
  · rcases e with e | e
    · rw [if_pos e, if_neg (by omega), show (lk t p == 36) = false by rw [e]; rfl]
      exact good false
    · rw [if_neg (by omega), if_pos e, if_pos e, show (lk t p == 36) = true by rw [e]; rfl]
      exact good true
  · rw [if_neg (fun z => e (Or.inl z)), if_neg (fun z => e (Or.inr z)), e_fail h.1.2.2]
    refine ⟨_, rfl, ?_, rF.rf.p (by decide)⟩
    unfold rI
    rw [md_p1, if_pos rfl]; exact h.1.2.1
