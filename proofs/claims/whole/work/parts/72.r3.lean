theorem dgA (a c : Nat) (h1 : 48 ≤ c) : 10 * nI a + nI c - 48 = nI (a * 10 + (c - 48)) := by
  rw [show (10 : Int32) = nI 10 from rfl, show (48 : Int32) = nI 48 from rfl, pk_mul, nI_add, pk_sub (by omega)]
  congr 1
  omega
theorem e_rdD {t : List Nat} (ht : tOk t) (N : Nat) {lim b : Nat} {x3 : Int32} (hl : lim < 100) (hb : b < 1000) : ∀ (k n p a : Nat) (S : md_S), rT t p S → k ≤ lim → p ≤ t.length → k + 3 ≤ n →
    (¬ isDg t (rdD t k p a).1 → ∃ S', mo_readNumber_l108 N n (nI lim) (nI b) x3 (nI a) (nI (lim - k)) S = some (if x3 = 0 then nI (rdD t k p a).2 else -(nI (rdD t k p a).2), S') ∧ rT t (rdD t k p a).1 S' ∧ rF [6] S S') ∧
    (isDg t (rdD t k p a).1 → ∃ v S', mo_readNumber_l108 N n (nI lim) (nI b) x3 (nI a) (nI (lim - k)) S = some (v, S') ∧ rI b S' ∧ rF [6, 7] S S') := by
  intro k
  have h160 := ht.1
  induction k with
  | zero =>
    intro n p a S h hk hp hn
    obtain ⟨n, rfl⟩ : ∃ m, n = m + 2 := ⟨n - 2, by omega⟩
    rw [mo_readNumber_l108, e_good h.2.2]
    simp only [md_bs]
    rw [if_neg (by decide), e_atp h ht (by omega)]
    simp only [md_bs]
    rw [e_dg ht]
    simp only [md_bs, i01, rdD]
    refine ⟨fun hd => ?_, fun hd => ?_⟩
    · rw [if_pos hd]
      unfold mo_readNumber_j186 mo_readNumber_j198
      exact ⟨S, by split <;> rfl, h, rF.rf⟩
    · rw [if_neg (fun z => z hd), if_pos (by simp), e_fail h.2.2]
      simp only [md_cs, md_lx]
      rw [if_pos (by simp)]
      have hi : rI b (md_p (md_p S 7 (nI b)) 6 ((md_p S 7 (nI b)).1 6 + 1)) := by
        unfold rI
        rw [md_p1, if_neg (by decide), md_p1, if_pos rfl]
      rw [mo_readNumber_l108, e_ill hi hb]
      simp only [md_bs, if_true]
      unfold mo_readNumber_j186 mo_readNumber_j198
      refine ⟨if x3 = 0 then nI a else -(nI a), _, by split <;> rfl, hi, (rF.rf.p (by decide)).p (by decide)⟩
  | succ k ih =>
    intro n p a S h hk hp hn
    obtain ⟨n, rfl⟩ : ∃ m, n = m + 2 := ⟨n - 2, by omega⟩
    rw [mo_readNumber_l108, e_good h.2.2]
    simp only [md_bs]
    rw [if_neg (by decide), e_atp h ht (by omega)]
    simp only [md_bs]
    rw [e_dg ht]
    simp only [md_bs, i01, rdD]
    by_cases hd : isDg t p
    · have hlt : p < t.length := lk_lt (rfl : lk t p = lk t p) (by have := hd.1; omega)
      rw [if_pos hd, if_neg (show ¬ ¬ isDg t p from fun z => z hd)]
      have n1 : ¬ nI (lim - (k + 1)) = nI lim := fun z => by
        have := (nI_eq (a := lim - (k + 1)) (b := lim) (by omega) (by omega)).mp z
        omega
      have n2 : ¬ nI lim ≤ nI (lim - (k + 1)) := nI_ge (by omega) (by omega)
      rw [if_neg n1, if_neg n2, e_atp h ht (by omega)]
      simp only [md_bs, md_lx]
      have e1 : 10 * nI a + aT t p - 48 = nI (a * 10 + (lk t p - 48)) := by
        unfold aT
        rw [if_pos hlt]; exact dgA a _ hd.1
      have e2 : nI (lim - (k + 1)) + 1 = nI (lim - k) := by
        rw [nI_1]; congr 1; omega
      rw [e1, e2]
      obtain ⟨i1, i2⟩ := ih (n + 1) (p + 1) (a * 10 + (lk t p - 48)) _ h.i (by omega) (by omega) (by omega)
      refine ⟨fun z => ?_, fun z => ?_⟩
      · obtain ⟨S', a', b', c'⟩ := i1 z
        exact ⟨S', a', b', (rF.rf.p (K := [6]) (by decide)).tr c' (fun _ z => z) (fun _ z => z)⟩
      · obtain ⟨v, S', a', b', c'⟩ := i2 z
        exact ⟨v, S', a', b', (rF.rf.p (K := [6, 7]) (by decide)).tr c' (fun _ z => z) (fun _ z => z)⟩
    · rw [if_pos hd, if_neg hd]
      refine ⟨fun _ => ?_, fun z => absurd z hd⟩
      unfold mo_readNumber_j186 mo_readNumber_j198
      exact ⟨S, by split <;> rfl, h, rF.rf⟩
theorem e_readNumber {t : List Nat} (ht : tOk t) {N lim p : Nat} {S : md_S} (hl : lim < 100) (h : rT t p S) (hp : p ≤ t.length) (hN : 161 ≤ N) :
    (∀ v p', rdN t lim p = .inl (v, p') → ∃ S', mo_readNumber N (nI lim) S = some (v, S') ∧ rT t p' S' ∧ p' ≤ t.length ∧ rF [6] S S') ∧
    (∀ w, rdN t lim p = .inr w → ∃ v S', mo_readNumber N (nI lim) S = some (v, S') ∧ rI w S' ∧ w < 1000 ∧ rF [6, 7] S S') := by
  have h160 := ht.1
  have core : ∀ (x3 : Int32) (p1 : Nat) (S1 : md_S), rT t p1 S1 → p1 ≤ t.length →
      ((¬ isDg t p1 ∨ lk t p1 = 48) → ∃ v S', mo_readNumber_j73 N (nI lim) (nI p) x3 0 0 S1 = some (v, S') ∧ rI p1 S' ∧ rF [6, 7] S1 S') ∧
      (¬ (¬ isDg t p1 ∨ lk t p1 = 48) → (¬ isDg t (rdD t lim p1 0).1 → ∃ S', mo_readNumber_j73 N (nI lim) (nI p) x3 0 0 S1 = some (if x3 = 0 then nI (rdD t lim p1 0).2 else -(nI (rdD t lim p1 0).2), S') ∧ rT t (rdD t lim p1 0).1 S' ∧ rF [6] S1 S') ∧ (isDg t (rdD t lim p1 0).1 → ∃ v S', mo_readNumber_j73 N (nI lim) (nI p) x3 0 0 S1 = some (v, S') ∧ rI p S' ∧ rF [6, 7] S1 S')) := by
    intro x3 p1 S1 h1 hp1
    unfold mo_readNumber_j73 mo_readNumber_j100
    rw [e_atp h1 ht (by omega)]
    simp only [md_bs]
    rw [e_dg ht]
    simp only [md_bs, i01]
    rw [e_atp h1 ht (by omega)]
    simp only [md_bs, aT_48 ht]
    rw [e_fail h1.2.2]
    simp only [md_cs]
    have hill : ∀ n, ∃ v S', mo_readNumber_l108 N (n + 1) (nI lim) (nI p) x3 0 0 (md_p S1 7 (S1.1 6)) = some (v, S') ∧ rI p1 S' ∧ rF [6, 7] S1 S' := fun n => by
      have hi : rI p1 (md_p S1 7 (S1.1 6)) := by
        unfold rI
        rw [md_p1, if_pos rfl]; exact h1.2.1
      rw [mo_readNumber_l108, e_ill hi (by omega)]
      simp only [md_bs, if_true]
      unfold mo_readNumber_j186 mo_readNumber_j198
      exact ⟨if x3 = 0 then 0 else -0, _, by split <;> rfl, hi, rF.rf.p (by decide)⟩
    obtain ⟨M, rfl⟩ : ∃ m, N = m + 1 := ⟨N - 1, by omega⟩
    refine ⟨fun z => ?_, fun z => ?_⟩
    · by_cases hd : isDg t p1
      · rw [if_neg (fun y => y hd), if_pos (z.resolve_left (fun y => y hd))]
        exact hill M
      · rw [if_pos hd]
        exact hill M
    · have hd : isDg t p1 := Classical.byContradiction fun y => z (Or.inl y)
      rw [if_neg (fun y => y hd), if_neg (fun y => z (Or.inr y))]
      have := e_rdD ht (M + 1) (x3 := x3) hl (show p < 1000 by omega) lim (M + 1) p1 0 S1 h1 (Nat.le_refl _) hp1 (by omega)
      rw [Nat.sub_self, nI_0] at this
      exact this
  unfold mo_readNumber mo_readNumber_j23 mo_readNumber_j38
  rw [e_atp h ht (by omega)]
  simp only [md_bs, aT_45 ht, md_lx]
  unfold rdN
  by_cases hm : lk t p = 45
  · have hlt := lk_lt hm (by decide)
    have n1 : ¬ ((1 : Int32) = 0) := by decide
    have n2 : ¬ (lk t p ≠ 45 ∧ lk t p = 48) := fun z => z.1 hm
    simp only [if_pos hm, if_neg n1, if_neg n2]
    rw [e_atp h.i ht (by omega)]
    simp only [md_bs, aT_48 ht, if_neg n1, ite_self]
    rw [h.2.1]
    obtain ⟨c1, c2⟩ := core 1 (p + 1) (md_p S 6 (nI p + 1)) (by rw [nI_1]; exact h.at) (by omega)
    have f0 : ∀ K, 6 ∈ K → rF K S (md_p S 6 (nI p + 1)) := fun K a => rF.rf.p a
    refine ⟨fun v p' hq => ?_, fun w hq => ?_⟩
    · split at hq
      · cases hq
      next z =>
        split at hq
        · cases hq
        next y =>
          cases hq
          obtain ⟨S', a, b, c⟩ := (c2 z).1 y
          exact ⟨S', a, b, rdD_le (by omega), (f0 [6] (by decide)).tr c (fun _ z => z) (fun _ z => z)⟩
    · split at hq
      next z =>
        cases hq
        obtain ⟨v, S', a, b, c⟩ := c1 z
        exact ⟨v, S', a, b, by omega, (f0 [6, 7] (by decide)).tr c (fun _ z => z) (fun _ z => z)⟩
      next z =>
        split at hq
        next y =>
          cases hq
          obtain ⟨v, S', a, b, c⟩ := (c2 z).2 y
          exact ⟨v, S', a, b, by omega, (f0 [6, 7] (by decide)).tr c (fun _ z => z) (fun _ z => z)⟩
        · cases hq
  · rw [if_neg hm, if_neg hm]
    simp only [if_true]
    rw [e_atp h ht (by omega)]
    simp only [md_bs, aT_48 ht]
    by_cases h0 : lk t p = 48
    · have hlt := lk_lt h0 (by decide)
      rw [if_pos h0, if_pos ⟨hm, h0⟩]
      refine ⟨fun v p' hq => ?_, fun w hq => (nomatch hq)⟩
      cases hq
      exact ⟨_, rfl, h.i, by omega, rF.rf.p (by decide)⟩
    · rw [if_neg h0, if_neg (fun z => h0 z.2), h.2.1]
      obtain ⟨c1, c2⟩ := core 0 p S h hp
      refine ⟨fun v p' hq => ?_, fun w hq => ?_⟩
      · split at hq
        · cases hq
        next z =>
          split at hq
          · cases hq
          next y =>
            cases hq
            obtain ⟨S', a, b, c⟩ := (c2 z).1 y
            exact ⟨S', by rw [a, if_pos rfl], b, rdD_le (by omega), c⟩
      · split at hq
        next z =>
          cases hq
          obtain ⟨v, S', a, b, c⟩ := c1 z
          exact ⟨v, S', a, b, by omega, c⟩
        next z =>
          split at hq
          next y =>
            cases hq
            obtain ⟨v, S', a, b, c⟩ := (c2 z).2 y
            exact ⟨v, S', a, b, by omega, c⟩
          · cases hq
/-! words -/
theorem e_word2 {w : Nat} (N : Nat) {x1 : Int64} (hw : w < 1000) : ∀ (m n : Nat) (S : md_S), rI w S → m < 100 → m + 1 ≤ n → mo_word_l5 N n x1 (nI m - 1) S = some S := by
  intro m
  induction m with
  | zero =>
    intro n S h hm hn
    obtain ⟨n, rfl⟩ : ∃ k, n = k + 1 := ⟨n - 1, by omega⟩
    rw [mo_word_l5, if_pos (by decide)]
  | succ m ih =>
    intro n S h hm hn
    obtain ⟨n, rfl⟩ : ∃ k, n = k + 1 := ⟨n - 1, by omega⟩
    rw [mo_word_l5, nI_pred, if_neg (nI_pos (by omega)), e_need2 h hw]
    simp only [md_cs]
    rw [show nI m + (-1) = nI m - 1 from (Int32.sub_eq_add_neg _ _).symm]
    exact ih n S h (by omega) (by omega)
theorem e_wordL {t v : List Nat} (ht : tOk t) (N : Nat) {x1 : Int64} (hx : ∀ m, m < v.length → (x1 >>> ((8 * nI m).toInt64 &&& 63) &&& 255).toInt32 = nI (lk v (v.length - 1 - m))) (hv : ∀ j, j < v.length → lk v j ≠ 0 ∧ lk v j < 128) (hv2 : v.length < 50) : ∀ (m n i p : Nat) (S : md_S), rT t p S → p ≤ t.length → i + m = v.length → m + 1 ≤ n →
    (∀ p', exW t v m i p = .inl p' → ∃ S', mo_word_l5 N n x1 (nI m - 1) S = some S' ∧ rT t p' S' ∧ p' ≤ t.length ∧ rF [6] S S') ∧ (∀ w, exW t v m i p = .inr w → ∃ S', mo_word_l5 N n x1 (nI m - 1) S = some S' ∧ rI w S' ∧ w < 1000 ∧ rF [6, 7] S S') := by
  intro m
  have h160 := ht.1
  induction m with
  | zero =>
    intro n i p S h hp hi hn
    obtain ⟨n, rfl⟩ : ∃ k, n = k + 1 := ⟨n - 1, by omega⟩
    rw [mo_word_l5, if_pos (by decide)]
    refine ⟨fun p' hq => ?_, fun w hq => (nomatch hq)⟩
    cases hq
    exact ⟨S, rfl, h, hp, rF.rf⟩
  | succ m ih =>
    intro n i p S h hp hi hn
    obtain ⟨n, rfl⟩ : ∃ k, n = k + 1 := ⟨n - 1, by omega⟩
    rw [mo_word_l5, nI_pred, if_neg (nI_pos (by omega)), hx m (by omega), show v.length - 1 - m = i by omega, exW]
    have hc := hv i (by omega)
    rw [show nI m + (-1) = nI m - 1 from (Int32.sub_eq_add_neg _ _).symm]
    rcases e_need ht h hp hc.1 (show lk v i < 1000 by omega) with ⟨e, S', a, b, c⟩ | ⟨e, S', a, b, c⟩
    · rw [if_pos e, a]
      simp only [md_cs]
      have := lk_lt e hc.1
      obtain ⟨i1, i2⟩ := ih n (i + 1) (p + 1) S' b (by omega) (by omega) (by omega)
      refine ⟨fun p' hq => ?_, fun w hq => ?_⟩
      · obtain ⟨S2, a2, b2, d2, c2⟩ := i1 p' hq
        exact ⟨S2, a2, b2, d2, c.tr c2 (fun _ z => z) (fun _ z => z)⟩
      · obtain ⟨S2, a2, b2, d2, c2⟩ := i2 w hq
        exact ⟨S2, a2, b2, d2, c.tr c2 (by decide) (fun _ z => z)⟩
    · rw [if_neg e, a]
      simp only [md_cs]
      refine ⟨fun p' hq => (nomatch hq), fun w hq => ?_⟩
      cases hq
      exact ⟨S', e_word2 N (by omega) m n S' b (by omega) (by omega), b, by omega, c.mn (by decide)⟩
theorem e_word {t v : List Nat} (ht : tOk t) {N p : Nat} {x1 : Int64} {S : md_S} (hx : ∀ m, m < v.length → (x1 >>> ((8 * nI m).toInt64 &&& 63) &&& 255).toInt32 = nI (lk v (v.length - 1 - m))) (hv : ∀ j, j < v.length → lk v j ≠ 0 ∧ lk v j < 128) (hv2 : v.length < 50) (h : rT t p S) (hp : p ≤ t.length) (hN : 161 ≤ N) :
    (∀ p', exW t v v.length 0 p = .inl p' → ∃ S', mo_word N x1 (nI v.length) S = some S' ∧ rT t p' S' ∧ p' ≤ t.length ∧ rF [6] S S') ∧ (∀ w, exW t v v.length 0 p = .inr w → ∃ S', mo_word N x1 (nI v.length) S = some S' ∧ rI w S' ∧ w < 1000 ∧ rF [6, 7] S S') :=
  e_wordL ht N hx hv hv2 v.length N 0 p S h hp (by omega) (by omega)
def tLen : List Nat := [108, 101, 110, 103, 116, 104]
def tCnt : List Nat := [99, 111, 117, 110, 116]
theorem wd_true : ∀ m, m < tTrue.length → ((0x74727565 : Int64) >>> ((8 * nI m).toInt64 &&& 63) &&& 255).toInt32 = nI (lk tTrue (tTrue.length - 1 - m)) := by decide +kernel
theorem wd_false : ∀ m, m < tFalse.length → ((0x66616c7365 : Int64) >>> ((8 * nI m).toInt64 &&& 63) &&& 255).toInt32 = nI (lk tFalse (tFalse.length - 1 - m)) := by decide +kernel
theorem wd_null : ∀ m, m < tNull.length → ((0x6e756c6c : Int64) >>> ((8 * nI m).toInt64 &&& 63) &&& 255).toInt32 = nI (lk tNull (tNull.length - 1 - m)) := by decide +kernel
theorem wd_len : ∀ m, m < tLen.length → ((0x6c656e677468 : Int64) >>> ((8 * nI m).toInt64 &&& 63) &&& 255).toInt32 = nI (lk tLen (tLen.length - 1 - m)) := by decide +kernel
theorem wd_cnt : ∀ m, m < tCnt.length → ((0x636f756e74 : Int64) >>> ((8 * nI m).toInt64 &&& 63) &&& 255).toInt32 = nI (lk tCnt (tCnt.length - 1 - m)) := by decide +kernel
