theorem dK_U {D : dS} {n : Nat} {r : nR} (h : dK D) (h1 : nki r = nki (D.2 n)) (h2 : nou r = nou (D.2 n)) : dK (dU D n r) := by
  have e1 : ∀ j, nki ((dU D n r).2 j) = nki (D.2 j) := fun j => by
    by_cases e : j = n
    · rw [e, dU_s]; exact h1
    · rw [dU_n e]
  have e2 : ∀ j, nou ((dU D n r).2 j) = nou (D.2 j) := fun j => by
    by_cases e : j = n
    · rw [e, dU_s]; exact h2
    · rw [dU_n e]
  refine ⟨fun m hm k => ?_, fun k hk o ho => ?_⟩
  · rw [e1, e2]; exact h.1 m hm k
  · rw [e2] at ho; exact h.2 k hk o ho
theorem dK_add {D : dS} {ou : Option Nat} {nm : List Nat} {be : Nat} (h : dK D) (ho : ∀ o, ou = some o → o < D.1) : dK (addD D ou nm be) := by
  obtain ⟨pl, hs⟩ := addD_s (D := D) (ou := ou) (nm := nm) (be := be)
  have hn : ∀ k, k < D.1 → nou ((addD D ou nm be).2 k) = nou (D.2 k) := fun k hk => by
    rw [addD_n (by omega)]; split <;> rfl
  refine ⟨fun m hm k => ?_, fun k hk o hq => ?_⟩
  · rw [addD1] at hm ⊢
    by_cases e : m = D.1
    · subst e
      rw [hs]
      refine ⟨fun z => (nomatch z), fun z => ?_⟩
      by_cases e2 : k = D.1
      · subst e2
        rw [hs] at z
        exact absurd (ho _ z.2) (by omega)
      · rw [hn k (by omega)] at z
        exact absurd (h.2 k (by omega) _ z.2) (by omega)
    · rw [addD_n e]
      have base := h.1 m (by omega) k
      by_cases e2 : k = D.1
      · subst e2
        rw [hs]
        have nb : D.1 ∉ nki (D.2 m) := fun z => absurd (base.mp z).1 (by omega)
        split
        next e3 => exact ⟨fun _ => ⟨by omega, e3⟩, fun _ => List.mem_append_right _ (by simp)⟩
        next e3 => exact ⟨fun z => absurd z nb, fun z => absurd z.2 e3⟩
      · have hx : k < D.1 + 1 ∧ nou ((addD D ou nm be).2 k) = some m ↔ k < D.1 ∧ nou (D.2 k) = some m := by
          constructor
          · rintro ⟨a, b⟩; rw [hn k (by omega)] at b; exact ⟨by omega, b⟩
          · rintro ⟨a, b⟩; rw [hn k a]; exact ⟨by omega, b⟩
        rw [hx, ← base]
        split
        next e3 =>
          show k ∈ nki (D.2 m) ++ [D.1] ↔ _
          rw [List.mem_append, List.mem_singleton]
          exact ⟨fun z => z.resolve_right e2, Or.inl⟩
        next => exact Iff.rfl
  · rw [addD1] at hk ⊢
    by_cases e2 : k = D.1
    · subst e2
      rw [hs] at hq
      have := ho o hq
      omega
    · rw [hn k (by omega)] at hq
      have := h.2 k (by omega) o hq
      omega
theorem kd_add {D : dS} {ou : Option Nat} {nm : List Nat} {be x : Nat} (h : x ≠ D.1) : nkd ((addD D ou nm be).2 x) = nkd (D.2 x) := by
  rw [addD_n h]; split <;> rfl
/-! what a step does -/
def vK (N : Nat) (x : Int32) (S : md_S) : Option (Int32 × md_S) := md_b (mo_good S) fun v144 S144 =>
  if v144 = 0 then mo_readStep_j160 N S144 else
  if md_in x 41 then
  if 5 ≤ (S144.2 12 x.toNatClampNeg) then
    if md_in x 41 then
    if (S144.2 12 x.toNatClampNeg) = 5 then mo_readStep_j179 N 1 S144 else mo_readStep_j179 N 2 S144
    else none
  else mo_readStep_j160 N S144
  else none
theorem st_val {t : List Nat} (ht : tOk t) {N p : Nat} {S : md_S} {s : Int32} (hT : rT t p S) (hp : p < t.length) (hs : s = 0 ∨ (s = 1 ∧ lk t p ≠ 93)) : mo_readStep N s S = md_c (mo_readValue N S) fun S140 => vK N (S.1 10) S140 := by
  have h160 := ht.1
  unfold mo_readStep
  rw [e_atp hT ht (by omega)]
  simp only [md_bs, aT_93 ht]
  rcases hs with rfl | ⟨rfl, h93⟩
  · rw [if_neg (by decide)]
    unfold mo_readStep_j20 mo_readStep_j31 mo_readStep_j66
    rw [if_neg (by decide), if_neg (by decide), if_neg (by decide), if_pos (by decide)]
    rfl
  · rw [if_pos rfl, if_neg h93]
    unfold mo_readStep_j20 mo_readStep_j31 mo_readStep_j66
    rw [if_neg (by decide), if_neg (by decide), if_neg (by decide), if_pos (by decide)]
    rfl
theorem st_name {t : List Nat} (ht : tOk t) {N p : Nat} {S : md_S} {s : Int32} (hT : rT t p S) (hp : p < t.length) (hs : s = 3 ∨ (s = 2 ∧ lk t p ≠ 125)) : mo_readStep N s S = md_c (mo_readName N S) fun S129 => some (0, S129) := by
  have h160 := ht.1
  unfold mo_readStep
  rw [e_atp hT ht (by omega)]
  simp only [md_bs, aT_93 ht]
  rcases hs with rfl | ⟨rfl, h93⟩
  · rw [if_neg (by decide)]
    unfold mo_readStep_j20 mo_readStep_j31 mo_readStep_j66
    rw [if_neg (by decide), if_neg (by decide), if_neg (by decide), if_neg (by decide)]
  · rw [if_neg (by decide)]
    unfold mo_readStep_j20 mo_readStep_j31 mo_readStep_j66
    rw [if_pos rfl, if_neg (show ¬ aT t p = 125 by rw [aT_125 ht]; exact h93), if_neg (by decide), if_neg (by decide), if_neg (by decide)]
/-- a closing bracket that is looked for -/
theorem st_shut {t : List Nat} (ht : tOk t) {N p : Nat} {S : md_S} {s : Int32} {ob : Bool} (hT : rT t p S) (hc : lk t p = obC ob) (hs : s = 4 ∨ s = (if ob = true then 2 else 1)) : mo_readStep N s S = md_c (mo_shut (obK ob) S) fun S61 => some (4, S61) := by
  have h160 := ht.1
  have hp : p < t.length := lk_lt hc (by cases ob <;> decide)
  unfold mo_readStep
  rw [e_atp hT ht (by omega)]
  simp only [md_bs]
  have h48 : mo_readStep_j48 N (aT t p) S = md_c (mo_shut (obK ob) S) fun S61 => some (4, S61) := by
    unfold mo_readStep_j48 mo_readStep_j61
    simp only [aT_93 ht]
    cases ob
    · rw [if_pos (show lk t p = 93 from hc)]; rfl
    · rw [if_neg (show ¬ lk t p = 93 by rw [hc]; decide)]; rfl
  cases ob
  · have h93 : lk t p = 93 := hc
    rcases hs with rfl | hs
    · rw [if_neg (by decide)]
      unfold mo_readStep_j20 mo_readStep_j31
      rw [if_neg (by decide), if_pos rfl, if_pos (show aT t p = 93 by rw [aT_93 ht]; exact h93), h48]
    · have hs' : s = 1 := hs
      subst hs'
      rw [if_pos rfl, if_pos (show aT t p = 93 by rw [aT_93 ht]; exact h93), h48]
  · have h93 : lk t p = 125 := hc
    rcases hs with rfl | hs
    · rw [if_neg (by decide)]
      unfold mo_readStep_j20 mo_readStep_j31
      rw [if_neg (by decide), if_pos rfl, if_neg (show ¬ aT t p = 93 by rw [aT_93 ht]; omega), if_pos (show aT t p = 125 by rw [aT_125 ht]; exact h93), h48]
    · have hs' : s = 2 := hs
      subst hs'
      rw [if_neg (by decide)]
      unfold mo_readStep_j20
      rw [if_pos rfl, if_pos (show aT t p = 125 by rw [aT_125 ht]; exact h93), h48]
theorem st_more {t : List Nat} (ht : tOk t) {N p n : Nat} {D : dS} {st : List Nat} {S : md_S} {ob : Bool} (hT : rT t p S) (hD : rD t D (n :: st) S) (hk : nkd (D.2 n) = obK ob) (hc : lk t p = 44) : ∃ S', mo_readStep N 4 S = some (if ob = true then 3 else 0, S') ∧ rT t (p + 1) S' ∧ rF [6] S S' := by
  have h160 := ht.1
  have hp : p < t.length := lk_lt hc (by decide)
  have hn := hD.2.2.2.2.2.2 n (by simp)
  have h40 := hD.2.1
  unfold mo_readStep
  rw [e_atp hT ht (by omega)]
  simp only [md_bs, aT_93 ht]
  rw [if_neg (by decide)]
  unfold mo_readStep_j20 mo_readStep_j31 mo_readStep_j66
  rw [if_neg (by decide), if_pos rfl, if_neg (show ¬ aT t p = 93 by rw [aT_93 ht]; omega), if_neg (show ¬ aT t p = 125 by rw [aT_125 ht]; omega), if_pos rfl, e_top hD]
  simp only [md_bs, md_lx]
  have hin : md_in (oI (n :: st).head?) 41 := nI_in (show n < 41 by omega) (by omega)
  have hcl : (oI (n :: st).head?).toNatClampNeg = n := nI_clamp (by omega)
  rw [if_pos (show aT t p = 44 by rw [aT_44 ht]; exact hc), if_neg (show ¬ oI (n :: st).head? = -1 from nI_m1 (by omega))]
  simp only [if_pos hin, hcl, md_p2, (hD.2.2.1 n hn.1).1]
  unfold mo_readStep_j122
  rw [hk]
  refine ⟨_, ?_, hT.i, rF.rf.p (by decide)⟩
  cases ob <;> rfl
theorem st_bad {t : List Nat} (ht : tOk t) {N p : Nat} {D : dS} {st : List Nat} {S : md_S} (hT : rT t p S) (hp : p < t.length) (hD : rD t D st S) (h1 : lk t p ≠ 93) (h2 : lk t p ≠ 125) (h3 : lk t p ≠ 44 ∨ st = []) : ∃ v S', mo_readStep N 4 S = some (v, S') ∧ rI p S' ∧ rF [7] S S' := by
  have h160 := ht.1
  unfold mo_readStep
  rw [e_atp hT ht (by omega)]
  simp only [md_bs, aT_93 ht]
  rw [if_neg (by decide)]
  unfold mo_readStep_j20 mo_readStep_j31 mo_readStep_j66
  rw [if_neg (by decide), if_pos rfl, if_neg (show ¬ aT t p = 93 by rw [aT_93 ht]; exact h1), if_neg (show ¬ aT t p = 125 by rw [aT_125 ht]; exact h2), if_pos rfl, e_top hD]
  simp only [md_bs, md_lx, aT_44 ht]
  have bad : ∃ v S', mo_readStep_j87 N S = some (v, S') ∧ rI p S' ∧ rF [7] S S' := by
    unfold mo_readStep_j87
    rw [e_fail hT.2.2]
    refine ⟨4, _, rfl, ?_, rF.rf.p (by decide)⟩
    unfold rI
    rw [md_p1, if_pos rfl]; exact hT.2.1
  by_cases h4 : lk t p = 44
  · have h5 := h3.resolve_left (fun z => z h4)
    rw [if_pos h4, h5, if_pos (show oI ([] : List Nat).head? = -1 from rfl)]
    exact bad
  · rw [if_neg h4]
    exact bad
/-! the spec at the text's end -/
theorem pV_end {t : List Nat} {lv p : Nat} {D : dS} {ou : Option Nat} {nm : List Nat} (h : lk t (bl t p) = 0) : pV t lv D p ou nm = .inr (bl t p) := by
  have hr : rdN t 6 (bl t p) = .inr (bl t p) := by
    unfold rdN
    simp [h, isDg]
  have hl : ∀ X, pL t D.1 X (bl t p) = .inr (bl t p) := fun X => by
    rw [pL_num (by omega) (by omega) (by omega) (by omega), hr]
  have hc : ¬ (lk t (bl t p) = 91 ∨ lk t (bl t p) = 123) := by omega
  cases lv with
  | zero =>
    unfold pV
    rw [if_neg hc, hl]
    unfold pF
    simp
  | succ lv =>
    unfold pV
    rw [if_neg hc, hl]
    unfold pF
    simp
theorem rdMem_bl {t : List Nat} (ht : tOk t) {D : dS} {n p : Nat} : rdMem t D n (bl t p) = rdMem t D n p := by
  unfold rdMem
  rw [bl_bl ht]
def VP (t : List Nat) (N lv : Nat) : Prop := ∀ (D : dS) (p : Nat) (st nm : List Nat) (S : md_S) (s : Int32), rT t p S → p ≤ t.length → rD t D st S → rNm t (S.1 22) (S.1 23) nm → dK D → st.length + lv = 6 → (s = 0 ∨ (s = 1 ∧ lk t (bl t p) ≠ 93)) →
  (∀ D' p', pV t lv D p st.head? nm = .inl (D', p') → ∃ k S' pe, bl t pe = p' ∧ pe ≤ t.length ∧ k + p ≤ pe ∧ (∀ n, dL N (n + k) s S = dL N n 4 S') ∧ rT t pe S' ∧ rD t D' st S' ∧ rNm t (S'.1 22) (S'.1 23) [] ∧ dK D' ∧ D.1 < D'.1 ∧ (∀ x, x < D.1 → nkd (D'.2 x) = nkd (D.2 x)) ∧ rF KD S S') ∧
  (∀ w, pV t lv D p st.head? nm = .inr w → ∃ k S', k + p ≤ t.length + 2 ∧ (∀ n, dL N (n + k) s S = some S') ∧ rI w S' ∧ w < 1000 ∧ rF KD S S')
theorem EPl {t : List Nat} (ht : tOk t) {N lv : Nat} (hN : 161 ≤ N) (hV : VP t N lv) {st : List Nat} {n : Nat} {ob : Bool} (hlv : st.length + 1 + lv = 6) : ∀ (kf : Nat) (D : dS) (p : Nat) (S : md_S) (s : Int32), rT t p S → p ≤ t.length → rD t D (n :: st) S → dK D → nkd (D.2 n) = obK ob → 41 ≤ D.1 + kf → (ob = false → rNm t (S.1 22) (S.1 23) []) → (ob = false → s = 0 ∨ (s = 1 ∧ lk t (bl t p) ≠ 93)) → (ob = true → s = 3 ∨ (s = 2 ∧ lk t (bl t p) ≠ 125)) →
    (∀ D' p', pE t (fun D p nm => pV t lv D p (some n) nm) ob n kf D p = .inl (D', p') → ∃ k S', k + p ≤ p' ∧ p' ≤ t.length ∧ (∀ m, dL N (m + k) s S = dL N m 4 S') ∧ rT t p' S' ∧ rD t (setF D' n p') st S' ∧ rNm t (S'.1 22) (S'.1 23) [] ∧ dK D' ∧ D.1 < D'.1 ∧ (∀ x, x < D.1 → nkd (D'.2 x) = nkd (D.2 x)) ∧ rF KD S S') ∧
    (∀ w, pE t (fun D p nm => pV t lv D p (some n) nm) ob n kf D p = .inr w → ∃ k S', k + p ≤ t.length + 2 ∧ (∀ m, dL N (m + k) s S = some S') ∧ rI w S' ∧ w < 1000 ∧ rF KD S S') := by
  have h160 := ht.1
  intro kf
  induction kf with
  | zero =>
    intro D p S s hT hp hD hK hk h41
    have := hD.2.1
    omega
  | succ kf ih =>
    intro D p S s hT hp hD hK hk h41 hpn hs1 hs2
    have hn := hD.2.2.2.2.2.2 n (by simp)
    have hbp := bl_le (t := t) hp
    have hbg := bl_ge ht p
    rw [pE]
    -- the name
    have nmP : (∀ nm p1, pH t D n ob p = .inl (nm, p1) → ∃ k1 S1 s1, k1 + p ≤ p1 ∧ p1 ≤ t.length ∧ (∀ m, dL N (m + k1) s S = dL N m s1 S1) ∧ rT t p1 S1 ∧ rNm t (S1.1 22) (S1.1 23) nm ∧ (s1 = 0 ∨ (s1 = 1 ∧ lk t (bl t p1) ≠ 93)) ∧ rF KN S S1) ∧ (∀ w, pH t D n ob p = .inr w → ∃ k S', k + p ≤ t.length + 2 ∧ (∀ m, dL N (m + k) s S = some S') ∧ rI w S' ∧ w < 1000 ∧ rF KD S S') := by
      unfold pH
      cases ob with
      | false =>
        rw [if_neg (by decide)]
        refine ⟨fun nm p1 hq => ?_, fun w hq => (nomatch hq)⟩
        cases hq
        exact ⟨0, S, s, by omega, hp, fun m => rfl, hT, hpn rfl, hs1 rfl, rF.rf⟩
      | true =>
        rw [if_pos rfl]
        by_cases he : bl t p < t.length
        · obtain ⟨S1, a1, a2, a3⟩ := dL_st ht (s := s) hN hT hp he
          have hs := hs2 rfl
          obtain ⟨b1, b2⟩ := e_name ht hN a1 hbp (bl_ne ht p) (hD.f a2 (by decide) (fun k h1 h2 z => by simp at z; omega)) hK
          rw [rdMem_bl ht] at b1 b2
          refine ⟨fun nm p1 hq => ?_, fun w hq => ?_⟩
          · obtain ⟨S2, c1, c2, c3, c4, c5, c6⟩ := b1 nm p1 hq
            refine ⟨1, S2, 0, by omega, c4, fun m => ?_, c2, c5, Or.inl rfl, a2.tr c6 (by decide) (by decide)⟩
            rw [a3, st_name ht a1 he hs, c1]
            rfl
          · obtain ⟨S2, c1, c2, c3, c4⟩ := b2 w hq
            refine ⟨2, S2, by omega, fun m => ?_, c2, c3, a2.tr c4 (by decide) (by decide)⟩
            rw [show m + 2 = (m + 1) + 1 from rfl, a3, st_name ht a1 he hs, c1]
            exact dL_ill c2 c3
        · have hr : rdMem t D n p = .inr (bl t p) := by
            unfold rdMem
            have : rdS t 34 92 (bl t p) = .inr (bl t p) := by
              unfold rdS
              rw [if_neg (by rw [lk_ge (by omega)]; decide)]
            rw [this]
          rw [hr]
          refine ⟨fun nm p1 hq => (nomatch hq), fun w hq => ?_⟩
          cases hq
          obtain ⟨_, g2⟩ := dL_end ht (n := 0) (s := s) hN hT hp (by omega)
          have hs : ¬ (s = 4 ∧ S.1 21 ≤ 0) := fun z => by
            rcases hs2 rfl with q | q
            · rw [q] at z; exact absurd z.1 (by decide)
            · rw [q.1] at z; exact absurd z.1 (by decide)
          obtain ⟨S2, c1, c2, c3⟩ := g2 hs
          refine ⟨2, S2, by omega, fun m => ?_, c2, by omega, c3.mn (by decide)⟩
          obtain ⟨S3, d1, d2, d3⟩ := (dL_end ht (n := m) (s := s) hN hT hp (by omega)).2 hs
          have : S3 = S2 := by
            have e1 := c1
            have e2 := d1
            unfold dL at e1 e2
            rw [mo_readDocument_l24] at e1 e2
            rw [if_neg (by decide), e_good hT.2.2] at e1 e2
            simp only [md_bs] at e1 e2
            rw [if_neg (by decide)] at e1 e2
            obtain ⟨S4, x1, x2, x3⟩ := e_blanks ht hT hp hN
            rw [x1] at e1 e2
            simp only [md_cs] at e1 e2
            rw [e_atp x2 ht (by omega)] at e1 e2
            simp only [md_bs, aT_m1 ht, if_pos (show t.length ≤ bl t p by omega)] at e1 e2
            have hne : ¬ s = 4 ∨ ¬ S4.1 21 ≤ 0 := by
              by_cases q : s = 4
              · exact Or.inr (fun y => hs ⟨q, by rw [← (x3 21 (by decide)).1]; exact y⟩)
              · exact Or.inl q
            rcases hne with q | q
            · rw [if_neg q, e_fail x2.2.2] at e1 e2
              simp only [md_cs] at e1 e2
              rw [mo_readDocument_l24, if_pos rfl] at e1 e2
              exact (Option.some.inj e2).symm.trans (Option.some.inj e1)
            · rw [if_neg q, e_fail x2.2.2] at e1 e2
              simp only [md_cs, ite_self] at e1 e2
              rw [mo_readDocument_l24, if_pos rfl] at e1 e2
              exact (Option.some.inj e2).symm.trans (Option.some.inj e1)
          rw [d1, this]
    obtain ⟨nm1, nm2⟩ := nmP
    cases hH : pH t D n ob p with
    | inr w =>
      refine ⟨fun D' p' hq => (nomatch hq), fun w' hq => ?_⟩
      cases hq
      exact nm2 w hH
    | inl q =>
      obtain ⟨nm, p1⟩ := q
      obtain ⟨k1, S1, s1, c1, c2, c3, c4, c5, c6, c7⟩ := nm1 nm p1 hH
      have hD1 : rD t D (n :: st) S1 := hD.f c7 (by decide) (fun k h1 h2 z => by simp [KN] at z; omega)
      obtain ⟨v1, v2⟩ := hV D p1 (n :: st) nm S1 s1 c4 c2 hD1 c5 hK (by simp; omega) c6
      have hhd : (n :: st).head? = some n := rfl
      rw [hhd] at v1 v2
      show (∀ D' p', (match pV t lv D p1 (some n) nm with | .inr w => .inr w | .inl (D', p') => _ : (dS × Nat) ⊕ Nat) = .inl (D', p') → _) ∧ (∀ w, (match pV t lv D p1 (some n) nm with | .inr w => .inr w | .inl (D', p') => _ : (dS × Nat) ⊕ Nat) = .inr w → _)
      cases hvv : pV t lv D p1 (some n) nm with
      | inr w =>
        refine ⟨fun D' p' hq => (nomatch hq), fun w' hq => ?_⟩
        cases hq
        obtain ⟨k2, S2, d1, d2, d3, d4, d5⟩ := v2 w hvv
        refine ⟨k2 + k1, S2, by omega, fun m => ?_, d3, d4, c7.tr d5 (by decide) (fun _ z => z)⟩
        rw [← Nat.add_assoc, c3, d2]
      | inl q =>
        obtain ⟨D1, p2⟩ := q
        obtain ⟨k2, S2, pe, d0, d1, d2, d3, d4, d5, d6, d7, d8, d9, d10⟩ := v1 D1 p2 hvv
        have hk1 : nkd (D1.2 n) = obK ob := by rw [d9 n hn.1]; exact hk
        have h40' := d5.2.1
        have hkf : kf ≠ 0 := by omega
        have fS2 : rF KD S S2 := c7.tr d10 (by decide) (fun _ z => z)
        have hbpe := bl_le (t := t) d1
        have hbge := bl_ge ht pe
        subst d0
        by_cases he : bl t pe < t.length
        · obtain ⟨S3, a1, a2, a3⟩ := dL_st ht (s := 4) hN d4 d1 he
          have hD3 : rD t D1 (n :: st) S3 := d5.f a2 (by decide) (fun k h1 h2 z => by simp at z; omega)
          have hn3 : rNm t (S3.1 22) (S3.1 23) [] := by rw [(a2 22 (by decide)).1, (a2 23 (by decide)).1]; exact d6
          show (∀ D' p', (if kf ≠ 0 ∧ lk t (bl t pe) = 44 then _ else _) = _ → _) ∧ (∀ w, (if kf ≠ 0 ∧ lk t (bl t pe) = 44 then _ else _) = _ → _)
          by_cases h44 : lk t (bl t pe) = 44
          · rw [if_pos ⟨hkf, h44⟩]
            obtain ⟨S4, b1, b2, b3⟩ := st_more ht (N := N) a1 hD3 hk1 h44
            obtain ⟨i1, i2⟩ := ih D1 (bl t pe + 1) S4 (if ob = true then 3 else 0) b2 (by omega) (hD3.f b3 (by decide) (fun k h1 h2 z => by simp at z; omega)) d7 hk1 (by omega) (fun _ => by rw [(b3 22 (by decide)).1, (b3 23 (by decide)).1]; exact hn3) (fun z => by rw [z]; exact Or.inl rfl) (fun z => by rw [z]; exact Or.inl rfl)
            have stp : ∀ m, dL N (m + (1 + (k2 + k1))) s S = dL N m (if ob = true then 3 else 0) S4 := fun m => by
              rw [show m + (1 + (k2 + k1)) = ((m + 1) + k2) + k1 by omega, c3, d3, a3, b1]
              rfl
            have fS4 : rF KD S S4 := (fS2.tr a2 (fun _ z => z) (by decide)).tr b3 (fun _ z => z) (by decide)
            refine ⟨fun D' p' hq => ?_, fun w hq => ?_⟩
            · obtain ⟨k3, S5, e1, e2, e3, e4, e5, e6, e7, e8, e9, e10⟩ := i1 D' p' hq
              refine ⟨k3 + (1 + (k2 + k1)), S5, by omega, e2, fun m => ?_, e4, e5, e6, e7, by omega, fun x hx => (e9 x (by omega)).trans (d9 x hx), fS4.tr e10 (fun _ z => z) (fun _ z => z)⟩
              rw [← Nat.add_assoc, stp, e3]
            · obtain ⟨k3, S5, e1, e2, e3, e4, e5⟩ := i2 w hq
              refine ⟨k3 + (1 + (k2 + k1)), S5, by omega, fun m => ?_, e3, e4, fS4.tr e5 (fun _ z => z) (fun _ z => z)⟩
              rw [← Nat.add_assoc, stp, e2]
          · rw [if_neg (fun z => h44 z.2)]
            show (∀ D' p', (if lk t (bl t pe) = obC ob then _ else _) = _ → _) ∧ (∀ w, (if lk t (bl t pe) = obC ob then _ else _) = _ → _)
            by_cases hcl : lk t (bl t pe) = obC ob
            · rw [if_pos hcl]
              refine ⟨fun D' p' hq => ?_, fun w hq => (nomatch hq)⟩
              cases hq
              obtain ⟨S4, b1, b2, b3, b4, b5, b6⟩ := (e_shut ht (ob := ob) a1 hD3).1 hk1
              refine ⟨1 + (k2 + k1), S4, by omega, by omega, fun m => ?_, b2, b3, by rw [b4, b5]; exact hn3, d7, by omega, d9, (fS2.tr a2 (fun _ z => z) (by decide)).tr b6 (fun _ z => z) (fun _ z => z)⟩
              rw [show m + (1 + (k2 + k1)) = ((m + 1) + k2) + k1 by omega, c3, d3, a3, st_shut ht a1 hcl (Or.inl rfl), b1]
              rfl
            · rw [if_neg hcl]
              refine ⟨fun D' p' hq => (nomatch hq), fun w hq => ?_⟩
              cases hq
              have : ∃ v S', mo_readStep N 4 S3 = some (v, S') ∧ rI (bl t pe) S' ∧ rF [7] S3 S' := by
                by_cases ho : lk t (bl t pe) = obC (!ob)
                · obtain ⟨S4, b1, b2, b3⟩ := (e_shut ht (ob := !ob) a1 hD3).2 (by rw [hk1]; cases ob <;> decide)
                  refine ⟨4, S4, ?_, b2, b3⟩
                  rw [st_shut ht a1 ho (Or.inl rfl), b1]
                  rfl
                · refine st_bad ht a1 he hD3 ?_ ?_ (Or.inl h44)
                  · cases ob
                    · exact hcl
                    · exact ho
                  · cases ob
                    · exact ho
                    · exact hcl
              obtain ⟨v, S4, b1, b2, b3⟩ := this
              refine ⟨2 + (k2 + k1), S4, by omega, fun m => ?_, b2, by omega, (fS2.tr a2 (fun _ z => z) (by decide)).tr b3 (fun _ z => z) (by decide)⟩
              rw [show m + (2 + (k2 + k1)) = ((m + 1 + 1) + k2) + k1 by omega, c3, d3, a3, b1]
              exact dL_ill b2 (by omega)
        · have hz : lk t (bl t pe) = 0 := lk_ge (by omega)
          show (∀ D' p', (if kf ≠ 0 ∧ lk t (bl t pe) = 44 then _ else if lk t (bl t pe) = obC ob then _ else _) = _ → _) ∧ (∀ w, (if kf ≠ 0 ∧ lk t (bl t pe) = 44 then _ else if lk t (bl t pe) = obC ob then _ else _) = _ → _)
          rw [if_neg (fun z => absurd (hz.symm.trans z.2) (by decide)), if_neg (by rw [hz]; cases ob <;> decide)]
          refine ⟨fun D' p' hq => (nomatch hq), fun w hq => ?_⟩
          cases hq
          have h21 : ¬ ((4 : Int32) = 4 ∧ S2.1 21 ≤ 0) := fun z => by
            have h1 := z.2
            rw [d5.2.2.2.1] at h1
            exact nI_nle (by simp) (by have := d5.2.2.2.2.1; omega) h1
          have key : ∃ S3, (∀ m, dL N (m + 2) 4 S2 = some S3) ∧ rI (bl t pe) S3 ∧ rF [6, 7] S2 S3 := by
            obtain ⟨S4, x1, x2, x3⟩ := e_blanks ht d4 d1 hN
            refine ⟨md_p S4 7 (S4.1 6), fun m => ?_, ?_, (x3.mn (K := [6, 7]) (by decide)).p (by decide)⟩
            · rw [dL, mo_readDocument_l24, if_neg (by decide), e_good d4.2.2]
              simp only [md_bs]
              rw [if_neg (by decide), x1]
              simp only [md_cs]
              rw [e_atp x2 ht (by omega)]
              simp only [md_bs, aT_m1 ht, if_pos (show t.length ≤ bl t pe by omega), if_true]
              rw [if_neg (fun y => h21 ⟨rfl, by rw [← (x3 21 (by decide)).1]; exact y⟩), e_fail x2.2.2]
              simp only [md_cs]
              rw [mo_readDocument_l24, if_pos rfl]
            · unfold rI
              rw [md_p1, if_pos rfl]; exact x2.2.1
          obtain ⟨S3, b1, b2, b3⟩ := key
          refine ⟨2 + (k2 + k1), S3, by omega, fun m => ?_, b2, by omega, fS2.tr b3 (fun _ z => z) (by decide)⟩
          rw [show m + (2 + (k2 + k1)) = ((m + 2) + k2) + k1 by omega, c3, d3, b1]
