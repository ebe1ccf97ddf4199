theorem e_dg {t : List Nat} (ht : tOk t) {p : Nat} {S : md_S} : mo_isDigit (aT t p) S = some (if isDg t p then 1 else 0, S) := by
  unfold mo_isDigit mo_isDigit_j16 mo_isDigit_j17
  rw [show (48 : Int32) = nI 48 from rfl, show (57 : Int32) = nI 57 from rfl]
  simp only [aT_lt ht (show 48 < 1000 by decide) (by decide), aT_gt ht (show 57 < 1000 by decide)]
  by_cases h1 : lk t p < 48
  · rw [if_pos h1, if_pos (Or.inl rfl), if_neg (by unfold isDg; omega)]
  · rw [if_neg h1]
    by_cases h2 : 57 < lk t p
    · rw [if_pos h2, if_pos (Or.inl rfl), if_neg (by unfold isDg; omega)]
    · rw [if_neg h2, if_pos (Or.inr rfl), if_pos (by unfold isDg; omega)]
theorem e_lt {t : List Nat} (ht : tOk t) {p : Nat} {S : md_S} : mo_isLetter (aT t p) S = some (if isLt t p then 1 else 0, S) := by
  unfold mo_isLetter mo_isLetter_j16 mo_isLetter_j17
  rw [show (97 : Int32) = nI 97 from rfl, show (122 : Int32) = nI 122 from rfl]
  simp only [aT_lt ht (show 97 < 1000 by decide) (by decide), aT_gt ht (show 122 < 1000 by decide)]
  by_cases h1 : lk t p < 97
  · rw [if_pos h1, if_pos (Or.inl rfl), if_neg (by unfold isLt; omega)]
  · rw [if_neg h1]
    by_cases h2 : 122 < lk t p
    · rw [if_pos h2, if_pos (Or.inl rfl), if_neg (by unfold isLt; omega)]
    · rw [if_neg h2, if_pos (Or.inr rfl), if_pos (by unfold isLt; omega)]
theorem i01 {c : Prop} {i : Decidable c} : ((if c then (1 : Int32) else 0) = 0) = ¬ c := by
  by_cases h : c
  · rw [if_pos h]; simp [h]
  · rw [if_neg h]; simp [h]
/-! strings -/
theorem e_rsEnd {t : List Nat} {N p b1 : Nat} {S : md_S} (h6 : S.1 6 = nI p) (h86 : S.1 86 = nI b1) (hb : b1 ≤ p) :
    ∃ S', mo_readString_j112 N S = some S' ∧ S'.1 6 = nI (p + 1) ∧ S'.1 87 = nI (p - b1) ∧ S'.1 7 = S.1 7 ∧ rF [6, 87] S S' := by
  unfold mo_readString_j112
  simp only [md_lx]
  refine ⟨_, rfl, ?_, ?_, ?_, (rF.rf.p (by decide)).p (by decide)⟩
  · simp only [md_p1, if_true, (show (6 : Nat) ≠ 87 by decide), if_false]
    rw [h6, nI_1]
  · simp only [md_p1, if_true, (show (87 : Nat) ≠ 6 by decide), if_false]
    rw [h6, h86, pk_sub hb]
  · simp only [md_p1, (show (7 : Nat) ≠ 6 by decide), (show (7 : Nat) ≠ 87 by decide), if_false]
theorem e_rsIll {t : List Nat} {N n p b1 w : Nat} {S : md_S} {x1 x2 x3 : Int32} (h6 : S.1 6 = nI p) (h86 : S.1 86 = nI b1) (hb : b1 ≤ p) (hI : rI w S) (hw : w < 1000) :
    ∃ S', mo_readString_l23 N (n + 1) x1 x2 x3 S = some S' ∧ rI w S' ∧ rF [6, 87] S S' := by
  rw [mo_readString_l23, e_ill hI hw]
  simp only [md_bs, if_true]
  obtain ⟨S', a, b, c, d, e⟩ := e_rsEnd (t := t) (N := N) h6 h86 hb
  exact ⟨S', a, d.trans hI, e⟩
theorem e_rsL {t : List Nat} (ht : tOk t) (N : Nat) {qt br b : Nat} {x2 : Int32} (q0 : qt ≠ 0) (q9 : qt < 128) (hx : (x2 = nI br ∧ br ≠ 0 ∧ br < 128) ∨ (x2 = -1 ∧ br = qt)) (hb : b < 1000) : ∀ (k n p : Nat) (S : md_S), rT t p S → S.1 86 = nI (b + 1) → p + k = b + 9 → b + 1 ≤ p → p ≤ t.length → k + 2 ≤ n → 
    (∀ p', rsL t qt br b k p = .inl p' → ∃ S', mo_readString_l23 N n (nI qt) x2 (nI b) S = some S' ∧ rT t (p' + 1) S' ∧ S'.1 87 = nI (p' - (b + 1)) ∧ b + 1 ≤ p' ∧ p' < t.length ∧ rF [6, 87] S S') ∧
    (∀ w, rsL t qt br b k p = .inr w → ∃ S', mo_readString_l23 N n (nI qt) x2 (nI b) S = some S' ∧ rI w S' ∧ w < 1000 ∧ rF [6, 7, 87] S S') := by
  intro k
  have h160 := ht.1
  induction k with
  | zero =>
    intro n p S h h86 hk hbp hp hn
    obtain ⟨n, rfl⟩ : ∃ m, n = m + 2 := ⟨n - 2, by omega⟩
    rw [mo_readString_l23, e_good h.2.2]
    simp only [md_bs]
    rw [if_neg (by decide), e_atp h ht (by omega)]
    simp only [md_bs, aT_eq ht q0 (show qt < 1000 by omega), rsL]
    by_cases e : lk t p = qt
    · rw [if_pos e, if_pos e]
      obtain ⟨S', a, b', c, d, f⟩ := e_rsEnd (t := t) (N := N) h.2.1 h86 (by omega)
      refine ⟨fun p' hp' => ?_, fun w hw => (nomatch hw)⟩
      cases hp'
      exact ⟨S', a, ⟨h.1.f f (by decide) (by decide), b', d.trans h.2.2⟩, c, by omega, lk_lt e q0, f⟩
    · rw [if_neg e, if_neg e]
      rw [e_atp h ht (by omega)]
      simp only [md_bs, aT_m1 ht]
      by_cases e0 : t.length ≤ p
      · rw [if_pos e0, e_fail h.2.2]
        simp only [md_cs]
        rw [if_pos (Or.inl (lk_ge e0))]
        refine ⟨fun p' hp' => (nomatch hp'), fun w hw => ?_⟩
        cases hw
        obtain ⟨S', a, b', c⟩ := e_rsIll (t := t) (N := N) (n := n) (x1 := nI qt) (x2 := x2) (x3 := nI b) (S := md_p S 7 (S.1 6)) (p := p) (b1 := b + 1) (w := p) (by rw [md_p1, if_neg (by decide)]; exact h.2.1) (by rw [md_p1, if_neg (by decide)]; exact h86) (by omega) (by unfold rI; rw [md_p1, if_pos rfl]; exact h.2.1) (by omega)
        exact ⟨S', a, b', by omega, (rF.rf.p (K := [6, 7, 87]) (by decide)).tr c (fun _ z => z) (by decide)⟩
      · rw [if_neg e0, e_atp h ht (by omega)]
        simp only [md_bs]
        have hz : lk t p ≠ 0 := fun z => e0 ((lk_z ht).mp z)
        have hxx : (aT t p = x2) = (lk t p = br) := by
          rcases hx with ⟨rfl, r0, r9⟩ | ⟨rfl, rfl⟩
          · exact aT_eq ht r0 (by omega)
          · rw [aT_m1 ht]
            exact propext ⟨fun z => absurd z e0, fun z => absurd z e⟩
        simp only [hxx]
        by_cases e1 : lk t p = br
        · rw [if_pos e1, e_fail h.2.2]
          simp only [md_cs]
          rw [if_pos (Or.inr e1)]
          refine ⟨fun p' hp' => (nomatch hp'), fun w hw => ?_⟩
          cases hw
          obtain ⟨S', a, b', c⟩ := e_rsIll (t := t) (N := N) (n := n) (x1 := nI qt) (x2 := x2) (x3 := nI b) (S := md_p S 7 (S.1 6)) (p := p) (b1 := b + 1) (w := p) (by rw [md_p1, if_neg (by decide)]; exact h.2.1) (by rw [md_p1, if_neg (by decide)]; exact h86) (by omega) (by unfold rI; rw [md_p1, if_pos rfl]; exact h.2.1) (by omega)
          exact ⟨S', a, b', by omega, (rF.rf.p (K := [6, 7, 87]) (by decide)).tr c (fun _ z => z) (by decide)⟩
        · have h8 : S.1 6 - S.1 86 = 8 := by
            rw [h.2.1, h86, pk_sub (by omega), show p - (b + 1) = 8 by omega]; rfl
          rw [if_neg e1, if_pos h8, e_fail h.2.2]
          simp only [md_cs]
          rw [if_neg (show ¬ (lk t p = 0 ∨ lk t p = br) from fun z => z.elim hz e1)]
          refine ⟨fun p' hp' => (nomatch hp'), fun w hw => ?_⟩
          cases hw
          obtain ⟨S', a, b', c⟩ := e_rsIll (t := t) (N := N) (n := n) (x1 := nI qt) (x2 := x2) (x3 := nI b) (S := md_p S 7 (nI b)) (p := p) (b1 := b + 1) (w := b) (by rw [md_p1, if_neg (by decide)]; exact h.2.1) (by rw [md_p1, if_neg (by decide)]; exact h86) (by omega) (by unfold rI; rw [md_p1, if_pos rfl]) (by omega)
          exact ⟨S', a, b', by omega, (rF.rf.p (K := [6, 7, 87]) (by decide)).tr c (fun _ z => z) (by decide)⟩
  | succ k ih =>
    intro n p S h h86 hk hbp hp hn
    obtain ⟨n, rfl⟩ : ∃ m, n = m + 2 := ⟨n - 2, by omega⟩
    rw [mo_readString_l23, e_good h.2.2]
    simp only [md_bs]
    rw [if_neg (by decide), e_atp h ht (by omega)]
    simp only [md_bs, aT_eq ht q0 (show qt < 1000 by omega), rsL]
    by_cases e : lk t p = qt
    · rw [if_pos e, if_pos e]
      obtain ⟨S', a, b', c, d, f⟩ := e_rsEnd (t := t) (N := N) h.2.1 h86 (by omega)
      refine ⟨fun p' hp' => ?_, fun w hw => (nomatch hw)⟩
      cases hp'
      exact ⟨S', a, ⟨h.1.f f (by decide) (by decide), b', d.trans h.2.2⟩, c, by omega, lk_lt e q0, f⟩
    · rw [if_neg e, if_neg e]
      rw [e_atp h ht (by omega)]
      simp only [md_bs, aT_m1 ht]
      by_cases e0 : t.length ≤ p
      · rw [if_pos e0, e_fail h.2.2]
        simp only [md_cs]
        rw [if_pos (Or.inl (lk_ge e0))]
        refine ⟨fun p' hp' => (nomatch hp'), fun w hw => ?_⟩
        cases hw
        obtain ⟨S', a, b', c⟩ := e_rsIll (t := t) (N := N) (n := n) (x1 := nI qt) (x2 := x2) (x3 := nI b) (S := md_p S 7 (S.1 6)) (p := p) (b1 := b + 1) (w := p) (by rw [md_p1, if_neg (by decide)]; exact h.2.1) (by rw [md_p1, if_neg (by decide)]; exact h86) (by omega) (by unfold rI; rw [md_p1, if_pos rfl]; exact h.2.1) (by omega)
        exact ⟨S', a, b', by omega, (rF.rf.p (K := [6, 7, 87]) (by decide)).tr c (fun _ z => z) (by decide)⟩
      · rw [if_neg e0, e_atp h ht (by omega)]
        simp only [md_bs]
        have hz : lk t p ≠ 0 := fun z => e0 ((lk_z ht).mp z)
        have hxx : (aT t p = x2) = (lk t p = br) := by
          rcases hx with ⟨rfl, r0, r9⟩ | ⟨rfl, rfl⟩
          · exact aT_eq ht r0 (by omega)
          · rw [aT_m1 ht]
            exact propext ⟨fun z => absurd z e0, fun z => absurd z e⟩
        simp only [hxx]
        by_cases e1 : lk t p = br
        · rw [if_pos e1, e_fail h.2.2]
          simp only [md_cs]
          rw [if_pos (Or.inr e1)]
          refine ⟨fun p' hp' => (nomatch hp'), fun w hw => ?_⟩
          cases hw
          obtain ⟨S', a, b', c⟩ := e_rsIll (t := t) (N := N) (n := n) (x1 := nI qt) (x2 := x2) (x3 := nI b) (S := md_p S 7 (S.1 6)) (p := p) (b1 := b + 1) (w := p) (by rw [md_p1, if_neg (by decide)]; exact h.2.1) (by rw [md_p1, if_neg (by decide)]; exact h86) (by omega) (by unfold rI; rw [md_p1, if_pos rfl]; exact h.2.1) (by omega)
          exact ⟨S', a, b', by omega, (rF.rf.p (K := [6, 7, 87]) (by decide)).tr c (fun _ z => z) (by decide)⟩
        · have h8 : ¬ nI (p - (b + 1)) = 8 := fun z => by
            have := (nI_eq (a := p - (b + 1)) (b := 8) (by omega) (by omega)).mp z
            omega
          have hne : ¬ (S.1 6 - S.1 86 = 8) := by
            rw [h.2.1, h86, pk_sub (by omega)]; exact h8
          rw [if_neg e1, if_neg hne, if_neg (show ¬ (lk t p = 0 ∨ lk t p = br) from fun z => z.elim hz e1)]
          simp only [md_lx]
          obtain ⟨i1, i2⟩ := ih (n + 1) (p + 1) _ h.i (by rw [md_p1, if_neg (by decide)]; exact h86) (by omega) (by omega) (by omega) (by omega)
          refine ⟨fun p' hp' => ?_, fun w hw => ?_⟩
          · obtain ⟨S', a, b', c, d, f, g⟩ := i1 p' hp'
            exact ⟨S', a, b', c, d, f, (rF.rf.p (K := [6, 87]) (by decide)).tr g (fun _ z => z) (fun _ z => z)⟩
          · obtain ⟨S', a, b', c, d⟩ := i2 w hw
            exact ⟨S', a, b', c, (rF.rf.p (K := [6, 7, 87]) (by decide)).tr d (fun _ z => z) (fun _ z => z)⟩
theorem e_readString {t : List Nat} (ht : tOk t) {N qt br p : Nat} {x2 : Int32} {S : md_S} (q0 : qt ≠ 0) (q9 : qt < 128) (hx : (x2 = nI br ∧ br ≠ 0 ∧ br < 128) ∨ (x2 = -1 ∧ br = qt)) (h : rT t p S) (hq : lk t p = qt) (hN : 161 ≤ N) :
    (∀ p', rdS t qt br p = .inl p' → ∃ S', mo_readString N (nI qt) x2 S = some S' ∧ rT t (p' + 1) S' ∧ S'.1 86 = nI (p + 1) ∧ S'.1 87 = nI (p' - (p + 1)) ∧ p + 1 ≤ p' ∧ p' < t.length ∧ rF [6, 86, 87] S S') ∧
    (∀ w, rdS t qt br p = .inr w → ∃ S', mo_readString N (nI qt) x2 S = some S' ∧ rI w S' ∧ w < 1000 ∧ rF [6, 7, 86, 87] S S') := by
  have h160 := ht.1
  have hp := lk_lt hq q0
  unfold mo_readString rdS
  simp only [md_lx]
  rw [if_pos hq]
  have e6 : (md_p S 6 (S.1 6 + 1)).1 6 = nI (p + 1) := h.i.2.1
  rw [e6, h.2.1]
  rw [h.2.1] at e6
  obtain ⟨i1, i2⟩ := e_rsL ht N q0 q9 hx (b := p) (by omega) 8 N (p + 1) (md_p (md_p S 6 (nI p + 1)) 86 (nI (p + 1))) (by rw [nI_1]; exact h.at.p (by decide) (by decide) (by decide)) (by rw [md_p1, if_pos rfl]) (by omega) (by omega) (by omega) (by omega)
  have f0 : ∀ K, 6 ∈ K → 86 ∈ K → rF K S (md_p (md_p S 6 (nI p + 1)) 86 (nI (p + 1))) := fun K a b => (rF.rf.p a).p b
  refine ⟨fun p' hp' => ?_, fun w hw => ?_⟩
  · obtain ⟨S', a, b', c, d, f, g⟩ := i1 p' hp'
    exact ⟨S', a, b', by rw [(g 86 (by decide)).1, md_p1, if_pos rfl], c, d, f, (f0 [6, 86, 87] (by decide) (by decide)).tr g (fun _ z => z) (by decide)⟩
  · obtain ⟨S', a, b', c, d⟩ := i2 w hw
    exact ⟨S', a, b', c, (f0 [6, 7, 86, 87] (by decide) (by decide)).tr d (fun _ z => z) (by decide)⟩
