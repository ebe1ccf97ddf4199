theorem md_p1 {S : md_S} {k j : Nat} {v : Int32} : (md_p S k v).1 j = if j = k then v else S.1 j := rfl
theorem md_p2 {S : md_S} {k : Nat} {v : Int32} : (md_p S k v).2 = S.2 := rfl
theorem md_w1 {S : md_S} {k j : Nat} {v : Int32} : (md_w S k j v).1 = S.1 := rfl
theorem md_w2 {S : md_S} {k j i : Nat} {v : Int32} : (md_w S k j v).2 i = if i = k then upd (S.2 k) j v else S.2 i := rfl
theorem md_bs {α : Type} {v : Int32} {S : md_S} {f : Int32 → md_S → Option α} : md_b (some (v, S)) f = f v S := rfl
theorem md_cs {α : Type} {S : md_S} {f : md_S → Option α} : md_c (some S) f = f S := rfl
theorem md_lx {α β : Type} {x : α} {f : α → β} : md_l x f = f x := rfl
theorem upd_s {f : Nat → Int32} {k : Nat} {x : Int32} : upd f k x k = x := if_pos rfl
theorem upd_n {f : Nat → Int32} {k j : Nat} {x : Int32} (h : j ≠ k) : upd f k x j = f j := if_neg h
/-- what stays -/
def rF (K : List Nat) (S S' : md_S) : Prop := ∀ k, k ∉ K → S'.1 k = S.1 k ∧ S'.2 k = S.2 k
theorem rF.rf {K : List Nat} {S : md_S} : rF K S S := fun _ _ => ⟨rfl, rfl⟩
theorem rF.tr {K K1 K2 : List Nat} {S S1 S2 : md_S} (a : rF K1 S S1) (b : rF K2 S1 S2) (h1 : ∀ k, k ∈ K1 → k ∈ K) (h2 : ∀ k, k ∈ K2 → k ∈ K) : rF K S S2 := fun k hk => by
  obtain ⟨a1, a2⟩ := a k (fun z => hk (h1 k z))
  obtain ⟨b1, b2⟩ := b k (fun z => hk (h2 k z))
  exact ⟨b1.trans a1, b2.trans a2⟩
theorem rF.p {K : List Nat} {S S1 : md_S} {k : Nat} {v : Int32} (a : rF K S S1) (hk : k ∈ K) : rF K S (md_p S1 k v) := fun j hj => by
  refine ⟨?_, (a j hj).2⟩
  rw [md_p1, if_neg (show ¬ j = k from fun z => hj (by rw [z]; exact hk))]
  exact (a j hj).1
theorem rF.w {K : List Nat} {S S1 : md_S} {k i : Nat} {v : Int32} (a : rF K S S1) (hk : k ∈ K) : rF K S (md_w S1 k i v) := fun j hj => by
  refine ⟨(a j hj).1, ?_⟩
  rw [md_w2, if_neg (show ¬ j = k from fun z => hj (by rw [z]; exact hk))]
  exact (a j hj).2
theorem rF.mn {K K1 : List Nat} {S S1 : md_S} (a : rF K1 S S1) (h : ∀ k, k ∈ K1 → k ∈ K) : rF K S S1 := fun k hk => a k (fun z => hk (h k z))
/-! the text that is read -/
def tOk (t : List Nat) : Prop := t.length ≤ 160 ∧ ∀ j, j < t.length → 32 ≤ lk t j ∧ lk t j ≤ 126
def rX (t : List Nat) (S : md_S) : Prop := S.1 5 = nI t.length ∧ ∀ j, j < t.length → S.2 4 j = nI (lk t j)
def rT (t : List Nat) (p : Nat) (S : md_S) : Prop := rX t S ∧ S.1 6 = nI p ∧ S.1 7 = -1
/-- ill at w -/
def rI (w : Nat) (S : md_S) : Prop := S.1 7 = nI w
def aT (t : List Nat) (p : Nat) : Int32 := if p < t.length then nI (lk t p) else -1
theorem lk_z {t : List Nat} (ht : tOk t) {p : Nat} : lk t p = 0 ↔ t.length ≤ p := ⟨fun h => by
  rcases Nat.lt_or_ge p t.length with z | z
  · have := (ht.2 p z).1; omega
  · exact z, lk_ge⟩
theorem lk_126 {t : List Nat} (ht : tOk t) (p : Nat) : lk t p ≤ 126 := by
  rcases Nat.lt_or_ge p t.length with z | z
  · exact (ht.2 p z).2
  · rw [lk_ge z]; omega
theorem nI_m1 {n : Nat} (h : n < 2 ^ 31) : ¬ nI n = -1 := fun z => by
  have h1 := nI_toInt h
  rw [z] at h1
  have h2 : ((-1 : Int32)).toInt = -1 := by decide
  omega
theorem aT_eq {t : List Nat} (ht : tOk t) {p c : Nat} (h0 : c ≠ 0) (hc : c < 1000) : (aT t p = nI c) = (lk t p = c) := by
  unfold aT
  by_cases hp : p < t.length
  · rw [if_pos hp]
    have := lk_126 ht p
    exact propext (nI_eq (by omega) (by omega))
  · rw [if_neg hp, lk_ge (by omega)]
    exact propext ⟨fun z => absurd z.symm (nI_m1 (by omega)), fun z => absurd z.symm h0⟩
theorem aT_m1 {t : List Nat} (ht : tOk t) {p : Nat} : (aT t p = -1) = (t.length ≤ p) := by
  unfold aT
  by_cases hp : p < t.length
  · rw [if_pos hp]
    have := lk_126 ht p
    exact propext ⟨fun z => absurd z (nI_m1 (by omega)), fun z => absurd z (by omega)⟩
  · rw [if_neg hp]
    exact propext ⟨fun _ => by omega, fun _ => rfl⟩
theorem aT_lt {t : List Nat} (ht : tOk t) {p c : Nat} (hc : c < 1000) (h0 : 0 < c) : (aT t p < nI c) = (lk t p < c) := by
  unfold aT
  by_cases hp : p < t.length
  · rw [if_pos hp]
    have := lk_126 ht p
    exact propext (nI_ltI (by omega) (by omega))
  · rw [if_neg hp, lk_ge (by omega)]
    refine propext ⟨fun _ => h0, fun _ => ?_⟩
    rw [Int32.lt_iff_toInt_lt, nI_toInt (by omega)]
    have h2 : ((-1 : Int32)).toInt = -1 := by decide
    omega
theorem aT_gt {t : List Nat} (ht : tOk t) {p c : Nat} (hc : c < 1000) : (nI c < aT t p) = (c < lk t p) := by
  unfold aT
  by_cases hp : p < t.length
  · rw [if_pos hp]
    have := lk_126 ht p
    exact propext (nI_ltI (by omega) (by omega))
  · rw [if_neg hp, lk_ge (by omega)]
    refine propext ⟨fun z => ?_, fun z => by omega⟩
    rw [Int32.lt_iff_toInt_lt, nI_toInt (by omega)] at z
    have h2 : ((-1 : Int32)).toInt = -1 := by decide
    omega
theorem aT_32 {t : List Nat} (ht : tOk t) {p : Nat} : (aT t p = 32) = (lk t p = 32) := aT_eq ht (by decide) (by decide)
theorem aT_33 {t : List Nat} (ht : tOk t) {p : Nat} : (aT t p = 33) = (lk t p = 33) := aT_eq ht (by decide) (by decide)
theorem aT_34 {t : List Nat} (ht : tOk t) {p : Nat} : (aT t p = 34) = (lk t p = 34) := aT_eq ht (by decide) (by decide)
theorem aT_36 {t : List Nat} (ht : tOk t) {p : Nat} : (aT t p = 36) = (lk t p = 36) := aT_eq ht (by decide) (by decide)
theorem aT_38 {t : List Nat} (ht : tOk t) {p : Nat} : (aT t p = 38) = (lk t p = 38) := aT_eq ht (by decide) (by decide)
theorem aT_39 {t : List Nat} (ht : tOk t) {p : Nat} : (aT t p = 39) = (lk t p = 39) := aT_eq ht (by decide) (by decide)
theorem aT_40 {t : List Nat} (ht : tOk t) {p : Nat} : (aT t p = 40) = (lk t p = 40) := aT_eq ht (by decide) (by decide)
theorem aT_41 {t : List Nat} (ht : tOk t) {p : Nat} : (aT t p = 41) = (lk t p = 41) := aT_eq ht (by decide) (by decide)
theorem aT_42 {t : List Nat} (ht : tOk t) {p : Nat} : (aT t p = 42) = (lk t p = 42) := aT_eq ht (by decide) (by decide)
theorem aT_44 {t : List Nat} (ht : tOk t) {p : Nat} : (aT t p = 44) = (lk t p = 44) := aT_eq ht (by decide) (by decide)
theorem aT_45 {t : List Nat} (ht : tOk t) {p : Nat} : (aT t p = 45) = (lk t p = 45) := aT_eq ht (by decide) (by decide)
theorem aT_46 {t : List Nat} (ht : tOk t) {p : Nat} : (aT t p = 46) = (lk t p = 46) := aT_eq ht (by decide) (by decide)
theorem aT_48 {t : List Nat} (ht : tOk t) {p : Nat} : (aT t p = 48) = (lk t p = 48) := aT_eq ht (by decide) (by decide)
theorem aT_58 {t : List Nat} (ht : tOk t) {p : Nat} : (aT t p = 58) = (lk t p = 58) := aT_eq ht (by decide) (by decide)
theorem aT_60 {t : List Nat} (ht : tOk t) {p : Nat} : (aT t p = 60) = (lk t p = 60) := aT_eq ht (by decide) (by decide)
theorem aT_61 {t : List Nat} (ht : tOk t) {p : Nat} : (aT t p = 61) = (lk t p = 61) := aT_eq ht (by decide) (by decide)
theorem aT_62 {t : List Nat} (ht : tOk t) {p : Nat} : (aT t p = 62) = (lk t p = 62) := aT_eq ht (by decide) (by decide)
theorem aT_63 {t : List Nat} (ht : tOk t) {p : Nat} : (aT t p = 63) = (lk t p = 63) := aT_eq ht (by decide) (by decide)
theorem aT_64 {t : List Nat} (ht : tOk t) {p : Nat} : (aT t p = 64) = (lk t p = 64) := aT_eq ht (by decide) (by decide)
theorem aT_91 {t : List Nat} (ht : tOk t) {p : Nat} : (aT t p = 91) = (lk t p = 91) := aT_eq ht (by decide) (by decide)
theorem aT_92 {t : List Nat} (ht : tOk t) {p : Nat} : (aT t p = 92) = (lk t p = 92) := aT_eq ht (by decide) (by decide)
theorem aT_93 {t : List Nat} (ht : tOk t) {p : Nat} : (aT t p = 93) = (lk t p = 93) := aT_eq ht (by decide) (by decide)
theorem aT_99 {t : List Nat} (ht : tOk t) {p : Nat} : (aT t p = 99) = (lk t p = 99) := aT_eq ht (by decide) (by decide)
theorem aT_102 {t : List Nat} (ht : tOk t) {p : Nat} : (aT t p = 102) = (lk t p = 102) := aT_eq ht (by decide) (by decide)
theorem aT_108 {t : List Nat} (ht : tOk t) {p : Nat} : (aT t p = 108) = (lk t p = 108) := aT_eq ht (by decide) (by decide)
theorem aT_110 {t : List Nat} (ht : tOk t) {p : Nat} : (aT t p = 110) = (lk t p = 110) := aT_eq ht (by decide) (by decide)
theorem aT_116 {t : List Nat} (ht : tOk t) {p : Nat} : (aT t p = 116) = (lk t p = 116) := aT_eq ht (by decide) (by decide)
theorem aT_123 {t : List Nat} (ht : tOk t) {p : Nat} : (aT t p = 123) = (lk t p = 123) := aT_eq ht (by decide) (by decide)
theorem aT_124 {t : List Nat} (ht : tOk t) {p : Nat} : (aT t p = 124) = (lk t p = 124) := aT_eq ht (by decide) (by decide)
theorem aT_125 {t : List Nat} (ht : tOk t) {p : Nat} : (aT t p = 125) = (lk t p = 125) := aT_eq ht (by decide) (by decide)
theorem e_at {t : List Nat} {S : md_S} (h : rX t S) (ht : tOk t) {k : Nat} (hk : k < 1000) : mo_at (nI k) S = some (aT t k, S) := by
  have h1 := ht.1
  unfold mo_at mo_at_j18 aT
  rw [h.1]
  by_cases hp : k < t.length
  · rw [if_neg (nI_ge hp (by omega)), if_pos hp, if_pos (nI_in (by omega) (by omega)), nI_clamp (by omega), h.2 k hp]
  · rw [if_pos (nI_le (by omega) (by omega)), if_neg hp]
theorem e_atp {t : List Nat} {S : md_S} {p : Nat} (h : rT t p S) (ht : tOk t) (hp : p < 1000) : mo_at (S.1 6) S = some (aT t p, S) := by
  rw [h.2.1]; exact e_at h.1 ht hp
theorem e_good {S : md_S} (h : S.1 7 = -1) : mo_good S = some (1, S) := by
  unfold mo_good mo_good_j13
  rw [if_pos h, if_pos (Or.inr rfl)]
theorem e_ill {w : Nat} {S : md_S} (h : rI w S) (hw : w < 1000) : mo_good S = some (0, S) := by
  unfold mo_good mo_good_j13
  rw [if_neg (by rw [h]; exact nI_m1 (by omega)), if_pos (Or.inl rfl)]
theorem e_fail {x : Int32} {S : md_S} (h : S.1 7 = -1) : mo_fail x S = some (md_p S 7 x) := by
  unfold mo_fail mo_fail_j16
  rw [e_good h]
  simp only [md_bs, md_lx]
  rw [if_neg (by decide)]
theorem e_fail2 {x : Int32} {w : Nat} {S : md_S} (h : rI w S) (hw : w < 1000) : mo_fail x S = some (md_p S 7 (S.1 7)) := by
  unfold mo_fail mo_fail_j16
  rw [e_ill h hw]
  simp only [md_bs, md_lx, if_true]
theorem rX.p {t : List Nat} {S : md_S} (h : rX t S) {k : Nat} {v : Int32} (hk : k ≠ 5) : rX t (md_p S k v) := by
  refine ⟨?_, h.2⟩
  rw [md_p1, if_neg (fun z => hk z.symm)]; exact h.1
theorem rX.w {t : List Nat} {S : md_S} (h : rX t S) {k j : Nat} {v : Int32} (hk : k ≠ 4) : rX t (md_w S k j v) := by
  refine ⟨h.1, fun i hi => ?_⟩
  rw [md_w2, if_neg (fun z => hk z.symm)]; exact h.2 i hi
theorem rX.f {t : List Nat} {S S' : md_S} {K : List Nat} (h : rX t S) (f : rF K S S') (h4 : 4 ∉ K) (h5 : 5 ∉ K) : rX t S' := ⟨by rw [(f 5 h5).1]; exact h.1, fun j hj => by rw [(f 4 h4).2]; exact h.2 j hj⟩
theorem rT.p {t : List Nat} {q : Nat} {S : md_S} (h : rT t q S) {k : Nat} {v : Int32} (hk : k ≠ 5) (h6 : k ≠ 6) (h7 : k ≠ 7) : rT t q (md_p S k v) := by
  refine ⟨h.1.p hk, ?_, ?_⟩
  · rw [md_p1, if_neg (fun z => h6 z.symm)]; exact h.2.1
  · rw [md_p1, if_neg (fun z => h7 z.symm)]; exact h.2.2
theorem rT.w {t : List Nat} {q : Nat} {S : md_S} (h : rT t q S) {k j : Nat} {v : Int32} (hk : k ≠ 4) : rT t q (md_w S k j v) := ⟨h.1.w hk, h.2.1, h.2.2⟩
theorem rT.f {t : List Nat} {q : Nat} {S S' : md_S} {K : List Nat} (h : rT t q S) (f : rF K S S') (h4 : 4 ∉ K) (h5 : 5 ∉ K) (h6 : 6 ∉ K) (h7 : 7 ∉ K) : rT t q S' := ⟨h.1.f f h4 h5, by rw [(f 6 h6).1]; exact h.2.1, by rw [(f 7 h7).1]; exact h.2.2⟩
theorem rT.at {t : List Nat} {q : Nat} {S : md_S} (h : rT t q S) {p : Nat} : rT t p (md_p S 6 (nI p)) := ⟨h.1.p (by decide), by rw [md_p1, if_pos rfl], by rw [md_p1, if_neg (by decide)]; exact h.2.2⟩
theorem rT.i {t : List Nat} {q : Nat} {S : md_S} (h : rT t q S) : rT t (q + 1) (md_p S 6 (S.1 6 + 1)) := by
  rw [h.2.1, nI_1]; exact h.at
/-! blanks -/
theorem skB_st {t : List Nat} : ∀ (n p : Nat), t.length ≤ p + n → skB t n p = skB t (n + 1) p
  | 0, p, h => by
    have e := lk_ge (t := t) (p := p) (by omega)
    unfold skB
    rw [if_neg (by omega)]
  | n + 1, p, h => by
    rw [skB, skB]
    by_cases e : lk t p = 32
    · rw [if_pos e, if_pos e]; exact skB_st n (p + 1) (by omega)
    · rw [if_neg e, if_neg e]
theorem skB_up {t : List Nat} {p n : Nat} (h : t.length ≤ p + n) : ∀ k, skB t (n + k) p = skB t n p
  | 0 => rfl
  | k + 1 => by rw [← skB_up h k, ← Nat.add_assoc]; exact (skB_st (n + k) p (by omega)).symm
def bl (t : List Nat) (p : Nat) : Nat := skB t 160 p
theorem bl_y {t : List Nat} (ht : tOk t) {p : Nat} (h : lk t p = 32) : bl t p = bl t (p + 1) := by
  have h1 := ht.1
  unfold bl
  rw [show 160 = 159 + 1 from rfl, skB, if_pos h]
  have := lk_lt h (by decide)
  exact skB_st 159 (p + 1) (by omega)
theorem bl_n {t : List Nat} {p : Nat} (h : lk t p ≠ 32) : bl t p = p := by
  unfold bl
  rw [show 160 = 159 + 1 from rfl, skB, if_neg h]
theorem bl_ind {t : List Nat} (ht : tOk t) (P : Nat → Nat → Prop) (hn : ∀ p, lk t p ≠ 32 → P p p) (hy : ∀ p, lk t p = 32 → P (p + 1) (bl t (p + 1)) → P p (bl t (p + 1))) : ∀ p, P p (bl t p) := by
  have key : ∀ k p, t.length ≤ p + k → P p (bl t p) := by
    intro k
    induction k with
    | zero =>
      intro p hp
      have e : lk t p ≠ 32 := by rw [lk_ge (by omega)]; decide
      rw [bl_n e]; exact hn p e
    | succ k ih =>
      intro p hp
      by_cases e : lk t p = 32
      · rw [bl_y ht e]; exact hy p e (ih (p + 1) (by omega))
      · rw [bl_n e]; exact hn p e
  exact fun p => key t.length p (by omega)
theorem bl_ne {t : List Nat} (ht : tOk t) (p : Nat) : lk t (bl t p) ≠ 32 := bl_ind ht (fun _ q => lk t q ≠ 32) (fun _ h => h) (fun _ _ h => h) p
theorem bl_ge {t : List Nat} (ht : tOk t) (p : Nat) : p ≤ bl t p := bl_ind ht (fun p q => p ≤ q) (fun _ _ => Nat.le_refl _) (fun _ _ h => by omega) p
theorem bl_le {t : List Nat} {p : Nat} (h : p ≤ t.length) : bl t p ≤ t.length := skB_le h
theorem bl_bl {t : List Nat} (ht : tOk t) (p : Nat) : bl t (bl t p) = bl t p := bl_n (bl_ne ht p)
theorem e_bl {t : List Nat} (ht : tOk t) (N : Nat) : ∀ (n p : Nat) (S : md_S), rT t p S → p ≤ t.length → t.length < p + n → ∃ S', mo_blanks_l0 N n S = some S' ∧ rT t (bl t p) S' ∧ rF [6] S S' := by
  intro n
  have h1 := ht.1
  induction n with
  | zero => intro p S h hp hn; omega
  | succ n ih =>
    intro p S h hp hn
    rw [mo_blanks_l0, e_atp h ht (by omega)]
    simp only [md_bs, md_lx]
    simp only [aT_32 ht]
    by_cases e : lk t p = 32
    · rw [if_pos e, bl_y ht e]
      have := lk_lt e (by decide)
      obtain ⟨S', a, b, c⟩ := ih (p + 1) _ h.i (by omega) (by omega)
      exact ⟨S', a, b, (rF.rf.p (by decide)).tr c (fun _ z => z) (fun _ z => z)⟩
    · rw [if_neg e, bl_n e]
      exact ⟨S, rfl, h, rF.rf⟩
theorem e_blanks {t : List Nat} (ht : tOk t) {N p : Nat} {S : md_S} (h : rT t p S) (hp : p ≤ t.length) (hN : 161 ≤ N) : ∃ S', mo_blanks N S = some S' ∧ rT t (bl t p) S' ∧ rF [6] S S' := by
  have := ht.1
  exact e_bl ht N N p S h hp (by omega)
/-! one letter -/
theorem e_need {t : List Nat} (ht : tOk t) {p c : Nat} {S : md_S} (h : rT t p S) (hp : p ≤ t.length) (h0 : c ≠ 0) (hc : c < 1000) :
    (lk t p = c ∧ ∃ S', mo_need (nI c) S = some S' ∧ rT t (p + 1) S' ∧ rF [6] S S') ∨ (lk t p ≠ c ∧ ∃ S', mo_need (nI c) S = some S' ∧ rI p S' ∧ rF [7] S S') := by
  have h1 := ht.1
  unfold mo_need mo_need_j32
  rw [e_good h.2.2]
  simp only [md_bs, md_lx]
  rw [if_neg (by decide), e_atp h ht (by omega)]
  simp only [md_bs, aT_eq ht h0 hc]
  by_cases e : lk t p = c
  · rw [if_pos e]
    exact Or.inl ⟨e, _, rfl, h.i, rF.rf.p (by decide)⟩
  · rw [if_neg e, e_fail h.2.2]
    simp only [md_cs]
    refine Or.inr ⟨e, _, rfl, ?_, rF.rf.p (by decide)⟩
    unfold rI
    rw [md_p1, if_pos rfl, h.2.1]
theorem md_pp {S : md_S} {k : Nat} : md_p S k (S.1 k) = S := by
  refine Prod.ext (funext fun j => ?_) rfl
  rw [md_p1]
  split
  next e => rw [e]
  next => rfl
theorem e_need2 {w : Nat} {x : Int32} {S : md_S} (h : rI w S) (hw : w < 1000) : mo_need x S = some S := by
  unfold mo_need mo_need_j32
  rw [e_ill h hw]
  simp only [md_bs, md_lx, if_true]
  rw [e_fail2 h hw, md_pp]
  rfl
