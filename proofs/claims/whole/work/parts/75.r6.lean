theorem sl_len {t : List Nat} {a n : Nat} (h : a + n ≤ t.length) : (sl t a n).length = n := by
  unfold sl
  rw [List.length_take, List.length_drop]; omega
theorem sl_lk {t : List Nat} {a n j : Nat} (h : j < n) : lk (sl t a n) j = lk t (a + j) := by
  unfold sl lk
  rw [List.getD_eq_getElem?_getD, List.getD_eq_getElem?_getD, List.getElem?_take, if_pos h, List.getElem?_drop]
theorem lk_ext {a b : List Nat} (h : a.length = b.length) (e : ∀ j, j < a.length → lk a j = lk b j) : a = b := by
  refine List.ext_getElem? fun j => ?_
  by_cases hj : j < a.length
  · have := e j hj
    unfold lk at this
    rw [List.getD_eq_getElem?_getD, List.getD_eq_getElem?_getD, List.getElem?_eq_getElem hj, List.getElem?_eq_getElem (by omega)] at this
    rw [List.getElem?_eq_getElem hj, List.getElem?_eq_getElem (by omega)]
    exact congrArg some this
  · rw [List.getElem?_eq_none (by omega), List.getElem?_eq_none (by omega)]
theorem rNm.len {t : List Nat} {A N : Int32} {nm : List Nat} (h : rNm t A N nm) : N = nI nm.length ∧ nm.length ≤ 8 := by
  rcases h with ⟨rfl, rfl⟩ | ⟨a, n, rfl, rfl, rfl, h8, hl⟩
  · exact ⟨rfl, by simp⟩
  · rw [sl_len hl]; exact ⟨rfl, h8⟩
/-- an array that holds a text -/
def rA (x : Nat) (t : List Nat) (S : md_S) : Prop := md_k x = some (0, 160) ∧ (∀ j, j < t.length → S.2 x j = nI (lk t j)) ∧ tOk t
theorem rNm.ch {t : List Nat} {A N : Int32} {nm : List Nat} {x : Nat} {S : md_S} (h : rNm t A N nm) (hA : rA x t S) {j : Nat} (hj : j < nm.length) : md_in (A + nI j) 160 ∧ S.2 x (A + nI j).toNatClampNeg = nI (lk nm j) ∧ lk nm j < 128 := by
  rcases h with ⟨rfl, rfl⟩ | ⟨a, n, rfl, rfl, rfl, h8, hl⟩
  · simp at hj
  · rw [sl_len hl] at hj
    have h1 := hA.2.2.1
    have h2 := lk_126 hA.2.2 (a + j)
    rw [nI_add, nI_clamp (by omega), sl_lk hj]
    exact ⟨nI_in (by omega) (by omega), hA.2.1 (a + j) (by omega), by omega⟩
theorem e_sameL {t1 t2 : List Nat} {A B M1 M2 : Int32} {a b : List Nat} {x1 x4 : Nat} {S : md_S} (N : Nat) (h1 : rNm t1 A M1 a) (h2 : rNm t2 B M2 b) (hA : rA x1 t1 S) (hB : rA x4 t2 S) (hl : a.length = b.length) : ∀ (m n k : Nat), k + m = a.length → m + 2 ≤ n → (∀ j, j < k → lk a j = lk b j) → mo_isSame_l16 N n x1 A M1 x4 B 1 (nI k) S = some (if a = b then 1 else 0, S) := by
  have l8 := h1.len.2
  intro m
  induction m with
  | zero =>
    intro n k hk hn hj
    obtain ⟨n, rfl⟩ : ∃ q, n = q + 1 := ⟨n - 1, by omega⟩
    rw [mo_isSame_l16, h1.len.1, if_pos (nI_le (by omega) (by omega)), if_pos (lk_ext hl (fun j z => hj j (by omega)))]
    unfold mo_isSame_j57
    rw [if_pos (Or.inr rfl)]
  | succ m ih =>
    intro n k hk hn hj
    obtain ⟨n, rfl⟩ : ∃ q, n = q + 2 := ⟨n - 2, by omega⟩
    obtain ⟨c1, c2, c3⟩ := h1.ch hA (j := k) (by omega)
    obtain ⟨d1, d2, d3⟩ := h2.ch hB (j := k) (by omega)
    rw [mo_isSame_l16]
    rw [if_neg (show ¬ M1 ≤ nI k by rw [h1.len.1]; exact nI_ge (by omega) (by omega)), if_neg (by decide), if_pos hA.1, if_pos c1, if_pos hB.1, if_pos d1, c2, d2]
    by_cases e : lk a k = lk b k
    · rw [if_pos (by rw [e]), nI_1]
      refine ih (n + 1) (k + 1) (by omega) (by omega) fun j z => ?_
      by_cases z2 : j = k
      · rw [z2]; exact e
      · exact hj j (by omega)
    · rw [if_neg (fun z => e ((nI_eq (by omega) (by omega)).mp z)), if_neg (fun z => e (by rw [z])), mo_isSame_l16]
      unfold mo_isSame_j57
      by_cases q : M1 ≤ nI k + 1
      · rw [if_pos q, if_pos (Or.inl rfl)]
      · rw [if_neg q, if_pos rfl, if_pos (Or.inl rfl)]
theorem e_same {t1 t2 : List Nat} {A B M1 M2 : Int32} {a b : List Nat} {x1 x4 : Nat} {S : md_S} {N : Nat} (h1 : rNm t1 A M1 a) (h2 : rNm t2 B M2 b) (hA : rA x1 t1 S) (hB : rA x4 t2 S) (hN : 161 ≤ N) : mo_isSame N x1 A M1 x4 B M2 S = some (if a = b then 1 else 0, S) := by
  have l8 := h1.len
  have l9 := h2.len
  unfold mo_isSame mo_isSame_j11
  by_cases e : a.length = b.length
  · rw [if_pos (by rw [l8.1, l9.1, e])]
    exact e_sameL N h1 h2 hA hB e a.length N 0 (by omega) (by omega) (fun j z => absurd z (by omega))
  · rw [if_neg (by rw [l8.1, l9.1]; exact fun z => e ((nI_eq (by omega) (by omega)).mp z)), if_neg (fun z => e (by rw [z]))]
    obtain ⟨n, rfl⟩ : ∃ q, N = q + 1 := ⟨N - 1, by omega⟩
    rw [mo_isSame_l16]
    unfold mo_isSame_j57
    by_cases q : M1 ≤ 0
    · rw [if_pos q, if_pos (Or.inl rfl)]
    · rw [if_neg q, if_pos rfl, if_pos (Or.inl rfl)]
theorem rX.a {t : List Nat} {S : md_S} (h : rX t S) (ht : tOk t) : rA 4 t S := ⟨by decide +kernel, h.2, ht⟩
/-! blanks in any state -/
theorem e_blX {t : List Nat} (ht : tOk t) (N : Nat) : ∀ (n p : Nat) (S : md_S), rX t S → S.1 6 = nI p → p ≤ t.length → t.length < p + n → ∃ S', mo_blanks_l0 N n S = some S' ∧ S'.1 6 = nI (bl t p) ∧ rF [6] S S' := by
  intro n
  have h1 := ht.1
  induction n with
  | zero => intro p S h h6 hp hn; omega
  | succ n ih =>
    intro p S h h6 hp hn
    rw [mo_blanks_l0, h6, e_at h ht (by omega)]
    simp only [md_bs, md_lx, aT_32 ht]
    by_cases e : lk t p = 32
    · rw [if_pos e, bl_y ht e, h6, nI_1]
      have := lk_lt e (by decide)
      obtain ⟨S', a, b, c⟩ := ih (p + 1) (md_p S 6 (nI (p + 1))) (h.p (by decide)) (by rw [md_p1, if_pos rfl]) (by omega) (by omega)
      exact ⟨S', a, b, (rF.rf.p (by decide)).tr c (fun _ z => z) (fun _ z => z)⟩
    · rw [if_neg e, bl_n e]
      exact ⟨S, rfl, h6, rF.rf⟩
/-! a member's name -/
def dK (D : dS) : Prop := (∀ n, n < D.1 → ∀ k, k ∈ nki (D.2 n) ↔ k < D.1 ∧ nou (D.2 k) = some n) ∧ ∀ k, k < D.1 → ∀ o, nou (D.2 k) = some o → o < D.1
theorem oI_some {o : Option Nat} {n : Nat} (hn : n < 1000) (ho : ∀ k, o = some k → k < 1000) : (oI o = nI n) = (o = some n) := by
  cases o with
  | none => exact propext ⟨fun z => absurd z.symm (nI_m1 (by omega)), fun z => nomatch z⟩
  | some k =>
    have := ho k rfl
    exact propext ⟨fun z => by rw [(nI_eq (a := k) (b := n) (by omega) (by omega)).mp z], fun z => by rw [Option.some.inj z]; rfl⟩
theorem e_nameEnd {t : List Nat} (ht : tOk t) {N q : Nat} {S : md_S} (h : rX t S) (h6 : S.1 6 = nI q) (hq : q ≤ t.length) (hN : 161 ≤ N) (n : Nat) {x1 x2 : Int32} (hx : S.1 10 ≤ x2) :
    (S.1 7 = -1 → (lk t (bl t q) = 58 ∧ ∃ S', mo_readName_l45 N (n + 1) x1 x2 S = some S' ∧ rT t (bl t q + 1) S' ∧ S'.1 22 = S.1 86 ∧ S'.1 23 = S.1 87 ∧ rF [6, 22, 23] S S') ∨ (lk t (bl t q) ≠ 58 ∧ ∃ S', mo_readName_l45 N (n + 1) x1 x2 S = some S' ∧ rI (bl t q) S' ∧ rF [6, 7, 22, 23] S S')) ∧
    (∀ w, w < 1000 → rI w S → ∃ S', mo_readName_l45 N (n + 1) x1 x2 S = some S' ∧ rI w S' ∧ rF [6, 7, 22, 23] S S') := by
  have h160 := ht.1
  rw [mo_readName_l45, if_pos hx]
  simp only [md_lx]
  have f0 : rF [22, 23] S (md_p (md_p S 22 (S.1 86)) 23 ((md_p S 22 (S.1 86)).1 87)) := (rF.rf.p (by decide)).p (by decide)
  obtain ⟨S1, hS1⟩ : ∃ S1, S1 = md_p (md_p S 22 (S.1 86)) 23 ((md_p S 22 (S.1 86)).1 87) := ⟨_, rfl⟩
  rw [← hS1] at f0 ⊢
  have e22 : S1.1 22 = S.1 86 := by rw [hS1]; simp [md_p1]
  have e23 : S1.1 23 = S.1 87 := by rw [hS1]; simp [md_p1]
  obtain ⟨S2, a, b, c⟩ := e_blX ht N N q S1 (h.f f0 (by decide) (by decide)) (by rw [(f0 6 (by decide)).1]; exact h6) hq (by omega)
  rw [show mo_blanks N S1 = some S2 from a]
  simp only [md_cs]
  have f1 : rF [6, 22, 23] S S2 := f0.tr c (by decide) (by decide)
  refine ⟨fun h7 => ?_, fun w hw hi => ?_⟩
  · have hT : rT t (bl t q) S2 := ⟨h.f f1 (by decide) (by decide), b, by rw [(f1 7 (by decide)).1]; exact h7⟩
    rcases e_need ht (c := 58) hT (bl_le hq) (by decide) (by decide) with ⟨e, S', x, y, z⟩ | ⟨e, S', x, y, z⟩
    · rw [show (58 : Int32) = nI 58 from rfl, x]
      exact Or.inl ⟨e, S', rfl, y, by rw [(z 22 (by decide)).1, (c 22 (by decide)).1, e22], by rw [(z 23 (by decide)).1, (c 23 (by decide)).1, e23], f1.tr z (fun _ z => z) (by decide)⟩
    · rw [show (58 : Int32) = nI 58 from rfl, x]
      exact Or.inr ⟨e, S', rfl, y, f1.tr z (by decide) (by decide)⟩
  · have hi2 : rI w S2 := by unfold rI; rw [(f1 7 (by decide)).1]; exact hi
    rw [e_need2 hi2 hw]
    exact ⟨S2, rfl, hi2, f1.mn (by decide)⟩
/-- the names that are there already -/
theorem e_nameL {t : List Nat} (ht : tOk t) {N q b n : Nat} {D : dS} {st nm : List Nat} (hN : 161 ≤ N) (hq : q ≤ t.length) (hb : b < 1000) (ho : ∀ k, k < D.1 → ∀ o, nou (D.2 k) = some o → o < D.1) (hn1 : n < 1000) : ∀ (m k : Nat) (f : Nat) (S : md_S), rX t S → S.1 6 = nI q → rD t D (n :: st) S → rNm t (S.1 86) (S.1 87) nm → k + m = D.1 → m + 1 ≤ f →
    (S.1 7 = -1 → (¬ ∃ j, k ≤ j ∧ j < D.1 ∧ nou (D.2 j) = some n ∧ nnm (D.2 j) = nm) → (lk t (bl t q) = 58 ∧ ∃ S', mo_readName_l45 N f (nI b) (nI k) S = some S' ∧ rT t (bl t q + 1) S' ∧ S'.1 22 = S.1 86 ∧ S'.1 23 = S.1 87 ∧ rF [6, 22, 23] S S') ∨ (lk t (bl t q) ≠ 58 ∧ ∃ S', mo_readName_l45 N f (nI b) (nI k) S = some S' ∧ rI (bl t q) S' ∧ rF [6, 7, 22, 23] S S')) ∧
    (S.1 7 = -1 → (∃ j, k ≤ j ∧ j < D.1 ∧ nou (D.2 j) = some n ∧ nnm (D.2 j) = nm) → ∃ S', mo_readName_l45 N f (nI b) (nI k) S = some S' ∧ rI b S' ∧ rF [6, 7, 22, 23] S S') ∧
    (∀ w, w < 1000 → rI w S → ∃ S', mo_readName_l45 N f (nI b) (nI k) S = some S' ∧ rI w S' ∧ rF [6, 7, 22, 23] S S') := by
  intro m
  induction m with
  | zero =>
    intro k f S hX h6 hD hnm hk hf
    obtain ⟨f, rfl⟩ : ∃ q, f = q + 1 := ⟨f - 1, by omega⟩
    have h40 := hD.2.1
    obtain ⟨g1, g2⟩ := e_nameEnd ht (N := N) hX h6 hq hN f (x1 := nI b) (x2 := nI k) (by rw [hD.1]; exact nI_le (by omega) (by omega))
    exact ⟨fun a _ => g1 a, fun _ ⟨j, j1, j2, _⟩ => absurd j2 (by omega), g2⟩
  | succ m ih =>
    intro k f S hX h6 hD hnm hk hf
    obtain ⟨f, rfl⟩ : ∃ q, f = q + 1 := ⟨f - 1, by omega⟩
    have h40 := hD.2.1
    have hr := hD.2.2.1 k (by omega)
    rw [mo_readName_l45]
    have n1 : ¬ S.1 10 ≤ nI k := by rw [hD.1]; exact nI_ge (by omega) (by omega)
    simp only [if_neg n1, if_pos (nI_in (show k < 41 by omega) (by omega)), nI_clamp (show k < 2 ^ 31 by omega)]
    rw [e_top hD]
    simp only [md_bs, hr.2.1]
    rw [nI_1]
    have hh : (oI (nou (D.2 k)) = oI (n :: st).head?) = (nou (D.2 k) = some n) := oI_some hn1 (fun o z => by have := ho k (by omega) o z; omega)
    simp only [hh]
    obtain ⟨i1, i2, i3⟩ := ih (k + 1) f S hX h6 hD hnm (by omega) (by omega)
    by_cases e : nou (D.2 k) = some n
    · rw [if_pos e, e_same hr.2.2.2.2.1 hnm (hX.a ht) (hX.a ht) hN]
      simp only [md_bs, i01]
      by_cases e2 : nnm (D.2 k) = nm
      · rw [if_neg (fun z => z e2)]
        refine ⟨fun _ z => absurd ⟨k, Nat.le_refl _, by omega, e, e2⟩ z, fun h7 _ => ?_, fun w hw hi => ?_⟩
        · rw [e_fail h7]
          simp only [md_cs]
          have f0 : rF [7] S (md_p S 7 (nI b)) := rF.rf.p (by decide)
          obtain ⟨_, _, j3⟩ := ih (k + 1) f (md_p S 7 (nI b)) (hX.p (by decide)) h6 (hD.f f0 (by decide) (fun k h1 h2 z => by simp at z; omega)) hnm (by omega) (by omega)
          obtain ⟨S', a', b', c'⟩ := j3 b hb (by unfold rI; rw [md_p1, if_pos rfl])
          exact ⟨S', a', b', f0.tr c' (by decide) (fun _ z => z)⟩
        · rw [e_fail2 hi hw, md_pp]
          exact i3 w hw hi
      · rw [if_pos e2]
        refine ⟨fun h7 z => i1 h7 (fun ⟨j, j1, j2, j3, j4⟩ => z ⟨j, by omega, j2, j3, j4⟩), fun h7 ⟨j, j1, j2, j3, j4⟩ => i2 h7 ⟨j, ?_, j2, j3, j4⟩, i3⟩
        by_cases jk : j = k
        · rw [jk] at j4; exact absurd j4 e2
        · omega
    · rw [if_neg e]
      refine ⟨fun h7 z => i1 h7 (fun ⟨j, j1, j2, j3, j4⟩ => z ⟨j, by omega, j2, j3, j4⟩), fun h7 ⟨j, j1, j2, j3, j4⟩ => i2 h7 ⟨j, ?_, j2, j3, j4⟩, i3⟩
      by_cases jk : j = k
      · rw [jk] at j3; exact absurd j3 e
      · omega
def KN : List Nat := [6, 7, 22, 23, 86, 87]
theorem kidN_ne {D : dS} (hK : dK D) {n : Nat} (hn : n < D.1) {nm : List Nat} : kidN D n nm ≠ none ↔ ∃ j, 0 ≤ j ∧ j < D.1 ∧ nou (D.2 j) = some n ∧ nnm (D.2 j) = nm := by
  unfold kidN
  rw [← Option.isSome_iff_ne_none, List.find?_isSome]
  constructor
  · rintro ⟨j, h1, h2⟩
    have := (hK.1 n hn j).mp h1
    exact ⟨j, Nat.zero_le _, this.1, this.2, by simpa using h2⟩
  · rintro ⟨j, _, h1, h2, h3⟩
    exact ⟨j, (hK.1 n hn j).mpr ⟨h1, h2⟩, by simpa using h3⟩
theorem rsL_8 {t : List Nat} {qt br b : Nat} : ∀ {k p q : Nat}, rsL t qt br b k p = .inl q → q ≤ p + k := by
  intro k
  induction k with
  | zero =>
    intro p q h
    rw [rsL] at h
    split at h
    · cases h; omega
    · split at h <;> cases h
  | succ k ih =>
    intro p q h
    rw [rsL] at h
    split at h
    · cases h; omega
    · split at h
      · cases h
      · have := ih h; omega
theorem rdS_8 {t : List Nat} {qt br p q : Nat} (h : rdS t qt br p = .inl q) : q ≤ p + 9 := by
  unfold rdS at h
  split at h
  · have := rsL_8 h; omega
  · cases h
theorem e_name {t : List Nat} (ht : tOk t) {N p n : Nat} {D : dS} {st : List Nat} {S : md_S} (hN : 161 ≤ N) (hT : rT t p S) (hp : p ≤ t.length) (hb : lk t p ≠ 32) (hD : rD t D (n :: st) S) (hK : dK D) :
    (∀ nm p', rdMem t D n p = .inl (nm, p') → ∃ S', mo_readName N S = some S' ∧ rT t p' S' ∧ p < p' ∧ p' ≤ t.length ∧ rNm t (S'.1 22) (S'.1 23) nm ∧ rF KN S S') ∧
    (∀ w, rdMem t D n p = .inr w → ∃ S', mo_readName N S = some S' ∧ rI w S' ∧ w < 1000 ∧ rF KN S S') := by
  have h160 := ht.1
  have h40 := hD.2.1
  have hn := hD.2.2.2.2.2.2 n (by simp)
  unfold mo_readName rdMem
  rw [bl_n hb, e_atp hT ht (by omega)]
  simp only [md_bs, aT_34 ht]
  by_cases e : lk t p = 34
  · rw [if_pos e]
    obtain ⟨r1, r2⟩ := e_readString ht (N := N) (qt := 34) (br := 92) (x2 := 92) (S := S) (by decide) (by decide) (Or.inl ⟨rfl, by decide, by decide⟩) hT e hN
    cases hr : rdS t 34 92 p with
    | inr w =>
      obtain ⟨S', s1, s2, s3, s4⟩ := r2 w hr
      refine ⟨fun nm p' hq => (nomatch hq), fun w' hq => ?_⟩
      cases hq
      rw [show (34 : Int32) = nI 34 from rfl, s1]
      simp only [md_cs]
      rw [e_ill s2 s3]
      simp only [md_bs, if_true]
      exact ⟨S', rfl, s2, s3, s4.mn (by decide)⟩
    | inl q =>
      obtain ⟨S', s1, s2, s3, s4, s5, s6, s7⟩ := r1 q hr
      have hq9 := rdS_8 hr
      rw [show (34 : Int32) = nI 34 from rfl, s1]
      simp only [md_cs]
      rw [e_good s2.2.2]
      simp only [md_bs]
      rw [if_neg (show ¬ ((1 : Int32) = 0) by decide), hT.2.1, show (0 : Int32) = nI 0 from rfl]
      have hnm : rNm t (S'.1 86) (S'.1 87) (sl t (p + 1) (q - (p + 1))) := Or.inr ⟨p + 1, q - (p + 1), s3, s4, rfl, by omega, by omega⟩
      obtain ⟨g1, g2, g3⟩ := e_nameL ht (N := N) (b := p) (n := n) (D := D) (st := st) (nm := sl t (p + 1) (q - (p + 1))) hN (q := q + 1) (by omega) (by omega) hK.2 (by omega) D.1 0 N S' s2.1 s2.2.1 (hD.f s7 (by decide) (fun k h1 h2 z => by simp at z; omega)) hnm (by omega) (by omega)
      by_cases ex : kidN D n (sl t (p + 1) (q - (p + 1))) ≠ none
      · rw [if_pos ex]
        refine ⟨fun nm p' hq => (nomatch hq), fun w' hq => ?_⟩
        cases hq
        obtain ⟨S2, a, b, c⟩ := g2 s2.2.2 ((kidN_ne hK hn.1).mp ex)
        exact ⟨S2, a, b, by omega, s7.tr c (by decide) (by decide)⟩
      · rw [if_neg ex]
        rcases g1 s2.2.2 (fun z => ex ((kidN_ne hK hn.1).mpr z)) with ⟨c58, S2, a, b, c, d, f⟩ | ⟨c58, S2, a, b, c⟩
        · rw [if_pos c58]
          refine ⟨fun nm p' hq => ?_, fun w' hq => (nomatch hq)⟩
          cases hq
          have := lk_lt c58 (by decide)
          have := bl_ge ht (q + 1)
          exact ⟨S2, a, b, by omega, by omega, by rw [c, d]; exact hnm, s7.tr f (by decide) (by decide)⟩
        · rw [if_neg c58]
          refine ⟨fun nm p' hq => (nomatch hq), fun w' hq => ?_⟩
          cases hq
          have := bl_le (t := t) (p := q + 1) (by omega)
          exact ⟨S2, a, b, by omega, s7.tr c (by decide) (by decide)⟩
  · rw [if_neg e, e_fail hT.2.2]
    have hr : rdS t 34 92 p = .inr p := by
      unfold rdS
      rw [if_neg e]
    rw [hr]
    refine ⟨fun nm p' hq => (nomatch hq), fun w' hq => ?_⟩
    cases hq
    refine ⟨_, rfl, ?_, by omega, rF.rf.p (by decide)⟩
    unfold rI
    rw [md_p1, if_pos rfl]; exact hT.2.1
