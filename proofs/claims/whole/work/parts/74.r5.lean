theorem e_finish {S : md_S} {n : Nat} (h : n < 41) : mo_finish (nI n) S = some (md_w (md_w S 16 n (S.1 6)) 14 n (S.1 10 - 1)) := by
  unfold mo_finish
  simp only [if_pos (nI_in h (by omega)), nI_clamp (show n < 2 ^ 31 by omega), md_lx, md_w1]
theorem rdD_ge {t : List Nat} : ∀ m q a, q ≤ (rdD t m q a).1 := by
  intro m
  induction m with
  | zero => intro q a; exact Nat.le_refl _
  | succ m ih =>
    intro q a
    rw [rdD]
    split
    · exact Nat.le_of_succ_le (ih _ _)
    · exact Nat.le_refl _
theorem rdN_lt {t : List Nat} {lim p p' : Nat} {v : Int32} (h : rdN t (lim + 1) p = .inl (v, p')) : p < p' := by
  unfold rdN at h
  simp only at h
  by_cases z1 : lk t p ≠ 45 ∧ lk t p = 48
  · rw [if_pos z1] at h
    cases h; omega
  · rw [if_neg z1] at h
    by_cases z2 : ¬ isDg t (if lk t p = 45 then p + 1 else p) ∨ lk t (if lk t p = 45 then p + 1 else p) = 48
    · rw [if_pos z2] at h; cases h
    · rw [if_neg z2] at h
      by_cases z3 : isDg t (rdD t (lim + 1) (if lk t p = 45 then p + 1 else p) 0).1
      · rw [if_pos z3] at h; cases h
      · rw [if_neg z3] at h
        have h2 := (Prod.mk.inj (Sum.inl.inj h)).2
        have hd : isDg t (if lk t p = 45 then p + 1 else p) := Classical.byContradiction fun y => z2 (Or.inl y)
        rw [rdD, if_pos hd] at h2
        have h3 := rdD_ge (t := t) lim ((if lk t p = 45 then p + 1 else p) + 1) (0 * 10 + (lk t (if lk t p = 45 then p + 1 else p) - 48))
        have h4 : p ≤ (if lk t p = 45 then p + 1 else p) := by split <;> omega
        omega
theorem pL_num {t : List Nat} {n p : Nat} {X : dS} (h1 : lk t p ≠ 34) (h2 : lk t p ≠ 110) (h3 : lk t p ≠ 102) (h4 : lk t p ≠ 116) : pL t n X p = match rdN t 6 p with
    | .inr w => .inr w
    | .inl (v, p') => .inl (setP X n 3 v [], p') := by
  unfold pL rdP
  rw [if_neg h1, if_neg h2, if_neg h3, if_neg h4]
  rcases rdN t 6 p with ⟨v, p'⟩ | w <;> rfl
def rFr (t : List Nat) (D : dS) (st : List Nat) (p : Nat) (nm : List Nat) (S : md_S) : Prop := S.1 10 = nI D.1 ∧ S.1 21 = nI st.length ∧ rP S st ∧ rNm t (S.1 22) (S.1 23) [] ∧ (∀ i, i < D.1 → rN t S i (D.2 i)) ∧ S.2 13 D.1 = oI st.head? ∧ S.2 15 D.1 = nI p ∧ rNm t (S.2 18 D.1) (S.2 19 D.1) nm
theorem rFr.f {t : List Nat} {D : dS} {st : List Nat} {p : Nat} {nm : List Nat} {S S' : md_S} {K : List Nat} (h : rFr t D st p nm S) (f : rF K S S') (hk : ∀ k, k ∈ K → k ∈ [6, 7, 86, 87]) : rFr t D st p nm S' := by
  have f2 : rF [6, 7, 86, 87] S S' := f.mn hk
  obtain ⟨a, b, c, d, e, g, i, j⟩ := h
  have e2 : ∀ k, 12 ≤ k → k ≤ 23 → k ∉ [6, 7, 86, 87] := fun k h1 h2 z => by simp at z; omega
  refine ⟨by rw [(f2 10 (by decide)).1]; exact a, by rw [(f2 21 (by decide)).1]; exact b, rP.f (f2 20 (by decide)).2 c, by rw [(f2 22 (by decide)).1, (f2 23 (by decide)).1]; exact d, fun q hq => (e q hq).f fun k h1 h2 => by rw [(f2 k (e2 k h1 (by omega))).2], by rw [(f2 13 (by decide)).2]; exact g, by rw [(f2 15 (by decide)).2]; exact i, by rw [(f2 18 (by decide)).2, (f2 19 (by decide)).2]; exact j⟩
theorem rFr.w {t : List Nat} {D : dS} {st : List Nat} {p : Nat} {nm : List Nat} {S : md_S} {k : Nat} {v : Int32} (h : rFr t D st p nm S) (hk : k ∈ [12, 14, 16, 17]) : rFr t D st p nm (md_w S k D.1 v) := by
  obtain ⟨a, b, c, d, e, g, i, j⟩ := h
  have hh : ∀ k', k' ∉ [12, 14, 16, 17] → (md_w S k D.1 v).2 k' = S.2 k' := fun k' z => by
    rw [md_w2, if_neg (show ¬ k' = k from fun y => z (by rw [y]; exact hk))]
  refine ⟨a, b, rP.f (hh 20 (by decide)) c, d, fun q hq => (e q hq).f fun k h1 h2 => md_wn (by omega), by rw [hh 13 (by decide)]; exact g, by rw [hh 15 (by decide)]; exact i, by rw [hh 18 (by decide), hh 19 (by decide)]; exact j⟩
/-- what a relation asks of the nodes that were there -/
theorem rN_add {t : List Nat} {D : dS} {st : List Nat} {S : md_S} {i be : Nat} {nm : List Nat} (hk : ∀ x, x ∈ st → x < D.1 ∧ (nkd (D.2 x) = 5 ∨ nkd (D.2 x) = 6)) (hi : i < D.1) (h : rN t S i (D.2 i)) : rN t S i ((addD D st.head? nm be).2 i) := by
  rw [addD_n (by omega)]
  split
  next e => exact h.b (hk i (List.mem_of_mem_head? e)).2
  next => exact h
theorem e_end {t : List Nat} {D : dS} {st : List Nat} {S : md_S} {N p p' : Nat} {nm tx : List Nat} {kd sz : Int32} (hF : rFr t D st p nm S) (hT : rT t p' S) (h40 : D.1 < 40) (hl : st.length ≤ 6) (hk : ∀ x, x ∈ st → x < D.1 ∧ (nkd (D.2 x) = 5 ∨ nkd (D.2 x) = 6)) (h12 : S.2 12 D.1 = kd) (h17 : kd = 3 ∨ kd = 4 → S.2 17 D.1 = sz) :
    ∃ S', mo_readValue_j341 N (nI D.1) S = some S' ∧ rT t p' S' ∧ rD t (setF (setP (addD D st.head? nm p) D.1 kd sz tx) D.1 p') st S' ∧ rNm t (S'.1 22) (S'.1 23) [] ∧ rF [10, 14, 16] S S' := by
  unfold mo_readValue_j341
  simp only [md_lx]
  rw [e_finish (by omega)]
  simp only [md_cs]
  have f : rF [10, 14, 16] S (md_w (md_w (md_p S 10 (S.1 10 + 1)) 16 D.1 ((md_p S 10 (S.1 10 + 1)).1 6)) 14 D.1 ((md_p S 10 (S.1 10 + 1)).1 10 - 1)) := ((rF.rf.p (by decide)).w (by decide)).w (by decide)
  obtain ⟨S', hS⟩ : ∃ S', S' = md_w (md_w (md_p S 10 (S.1 10 + 1)) 16 D.1 ((md_p S 10 (S.1 10 + 1)).1 6)) 14 D.1 ((md_p S 10 (S.1 10 + 1)).1 10 - 1) := ⟨_, rfl⟩
  rw [← hS] at f ⊢
  obtain ⟨a, b, c, d, e, g, i, j⟩ := hF
  have hn : (md_p S 10 (S.1 10 + 1)).1 10 = nI (D.1 + 1) := by rw [md_p1, if_pos rfl, a, nI_1]
  refine ⟨S', rfl, hT.f f (by decide) (by decide) (by decide) (by decide), ⟨?_, ?_, fun q hq => ?_, by rw [(f 21 (by decide)).1]; exact b, hl, rP.f (f 20 (by decide)).2 c, fun x hx => ?_⟩, by rw [(f 22 (by decide)).1, (f 23 (by decide)).1]; exact d, f⟩
  · rw [hS]
    simp only [md_w1]
    rw [hn]
    show _ = nI (addD D st.head? nm p).1
    rw [addD1]
  · show (addD D st.head? nm p).1 ≤ 40
    rw [addD1]; omega
  · have hq' : q < D.1 + 1 := by
      have : q < (addD D st.head? nm p).1 := hq
      rw [addD1] at this; exact this
    by_cases e1 : q = D.1
    · subst e1
      obtain ⟨pl, hp⟩ := addD_s (D := D) (ou := st.head?) (nm := nm) (be := p)
      unfold setF
      rw [dU_s]
      unfold setP
      simp only [dU_s]
      rw [hp]
      refine ⟨by rw [(f 12 (by decide)).2]; exact h12, by rw [(f 13 (by decide)).2]; exact g, by rw [(f 15 (by decide)).2]; exact i, fun z => by rw [(f 17 (by decide)).2]; exact h17 z, by rw [(f 18 (by decide)).2, (f 19 (by decide)).2]; exact j, fun e' a' ha => ?_⟩
      cases ha
      rw [hS]
      simp only [md_w2, if_true, (show (16 : Nat) ≠ 14 by decide), (show (14 : Nat) ≠ 16 by decide), if_false, upd_s]
      refine ⟨?_, ?_⟩
      · rw [md_p1, if_neg (by decide)]; exact hT.2.1
      · rw [hn]
        show _ = nI (addD D st.head? nm p).1 - 1
        rw [addD1]
    · unfold setF
      rw [dU_n e1]
      unfold setP
      rw [dU_n e1]
      refine rN_add hk (by omega) ((e q (by omega)).f fun k h1 h2 => ?_)
      rw [hS, md_wn e1, md_wn e1, md_p2]
  · have := hk x hx
    refine ⟨?_, ?_⟩
    · show x < (addD D st.head? nm p).1
      rw [addD1]; omega
    · unfold setF
      rw [dU_n (by omega)]
      unfold setP
      rw [dU_n (by omega), addD_n (by omega)]
      split
      · exact this.2
      · exact this.2
theorem e_endI {S : md_S} {N n w : Nat} (h : rI w S) (hn : n < 41) : ∃ S', mo_readValue_j341 N (nI n) S = some S' ∧ rI w S' ∧ rF [10, 14, 16] S S' := by
  unfold mo_readValue_j341
  simp only [md_lx]
  rw [e_finish hn]
  have f : rF [10, 14, 16] S (md_w (md_w (md_p S 10 (S.1 10 + 1)) 16 n ((md_p S 10 (S.1 10 + 1)).1 6)) 14 n ((md_p S 10 (S.1 10 + 1)).1 10 - 1)) := ((rF.rf.p (by decide)).w (by decide)).w (by decide)
  exact ⟨_, rfl, by unfold rI; rw [(f 7 (by decide)).1]; exact h, f⟩
theorem rT.le {t : List Nat} {p : Nat} (ht : tOk t) (h : lk t p ≠ 0) : p < t.length := lk_lt (rfl : lk t p = lk t p) h
def KV : List Nat := [6, 7, 10, 12, 13, 14, 15, 16, 17, 18, 19, 22, 23, 86, 87]
theorem e_leaf {t : List Nat} (ht : tOk t) {D : dS} {st : List Nat} {S : md_S} {N p : Nat} {nm : List Nat} (hT : rT t p S) (hp : p < t.length) (hD : rD t D st S) (hn : rNm t (S.1 22) (S.1 23) nm) (hN : 161 ≤ N) (h40 : D.1 < 40) (n1 : lk t p ≠ 91) (n2 : lk t p ≠ 123) :
    (∀ D' p', pL t D.1 (addD D st.head? nm p) p = .inl (D', p') → ∃ S', mo_readValue N S = some S' ∧ rT t p' S' ∧ p < p' ∧ p' ≤ t.length ∧ rD t (setF D' D.1 p') st S' ∧ rNm t (S'.1 22) (S'.1 23) [] ∧ nkd ((setF D' D.1 p').2 D.1) < 5 ∧ rF KV S S') ∧
    (∀ w, pL t D.1 (addD D st.head? nm p) p = .inr w → ∃ S', mo_readValue N S = some S' ∧ rI w S' ∧ w < 1000 ∧ rF KV S S') := by
  have h160 := ht.1
  have hl := hD.2.2.2.2.1
  have hk := hD.2.2.2.2.2.2
  unfold mo_readValue
  have ne40 : ¬ nI D.1 = 40 := fun z => by
    have := (nI_eq (a := D.1) (b := 40) (by omega) (by omega)).mp z
    omega
  rw [hD.1, if_neg ne40, e_atp hT ht (by omega)]
  simp only [md_bs, aT_91 ht, aT_123 ht]
  rw [if_neg n1, if_neg n2]
  unfold mo_readValue_j49
  simp only [if_true]
  unfold mo_readValue_j72
  rw [e_top hD]
  simp only [md_bs, md_lx, if_pos (nI_in (show D.1 < 41 by omega) (by omega)), nI_clamp (show D.1 < 2 ^ 31 by omega), if_true, aT_34 ht, aT_45 ht, aT_116 ht, aT_102 ht, aT_110 ht, md_w1, hT.2.1]
  have e22 : ((md_w (md_w (md_w S 13 D.1 (oI st.head?)) 15 D.1 (nI p)) 18 D.1 (S.1 22)).1 23) = S.1 23 := rfl
  obtain ⟨S1, hS1⟩ : ∃ S', S' = md_w (md_p (md_p (md_w (md_w (md_w (md_w S 13 D.1 (oI st.head?)) 15 D.1 (nI p)) 18 D.1 (S.1 22)) 19 D.1 (S.1 23)) 22 (-1)) 23 0) 17 D.1 0 := ⟨_, rfl⟩
  rw [← hS1]
  obtain ⟨fT, fa, fb, fc, fd, fe, fg, fh, fi, fj, f0⟩ := e_front (kd := 0) hT hD hn h40 hS1
  have fr : rFr t D st p nm S1 := ⟨fa, fb, fc, fd, fe, fg, fh, fj⟩
  have fV : rF KV S S1 := f0.mn (by decide)
  -- what ends well
  have good : ∀ {S2 : md_S} {kd sz : Int32} {tx : List Nat} {p' : Nat}, rFr t D st p nm S2 → rT t p' S2 → S2.2 12 D.1 = kd → (kd = 3 ∨ kd = 4 → S2.2 17 D.1 = sz) → kd < 5 → rF KV S S2 → p < p' → p' ≤ t.length →
      ∃ S', mo_readValue_j341 N (nI D.1) S2 = some S' ∧ rT t p' S' ∧ p < p' ∧ p' ≤ t.length ∧ rD t (setF (setP (addD D st.head? nm p) D.1 kd sz tx) D.1 p') st S' ∧ rNm t (S'.1 22) (S'.1 23) [] ∧ nkd ((setF (setP (addD D st.head? nm p) D.1 kd sz tx) D.1 p').2 D.1) < 5 ∧ rF KV S S' := by
    intro S2 kd sz tx p' a1 a2 a3 a4 a5 a6 a7 a8
    obtain ⟨S', b1, b2, b3, b4, b5⟩ := e_end (N := N) (tx := tx) (sz := sz) a1 a2 h40 hl hk a3 a4
    refine ⟨S', b1, b2, a7, a8, b3, b4, ?_, a6.tr b5 (fun _ z => z) (by decide)⟩
    unfold setF
    rw [dU_s]
    unfold setP
    rw [dU_s]
    exact a5
  have bad : ∀ {S2 : md_S} {w : Nat}, rI w S2 → rF KV S S2 → ∃ S', mo_readValue_j341 N (nI D.1) S2 = some S' ∧ rI w S' ∧ rF KV S S' := by
    intro S2 w a1 a2
    obtain ⟨S', b1, b2, b3⟩ := e_endI (N := N) (n := D.1) a1 (by omega)
    exact ⟨S', b1, b2, a2.tr b3 (fun _ z => z) (by decide)⟩
  by_cases c34 : lk t p = 34
  · unfold pL rdP
    rw [if_pos c34, if_pos c34]
    obtain ⟨r1, r2⟩ := e_readString ht (N := N) (qt := 34) (br := 92) (x2 := 92) (S := md_w S1 12 D.1 4) (by decide) (by decide) (Or.inl ⟨rfl, by decide, by decide⟩) (fT.w (by decide)) c34 hN
    refine ⟨fun D' p' hq => ?_, fun w hq => ?_⟩
    · split at hq
      · cases hq
      next kd sz tx p1 hr =>
        split at hr
        next q hr2 =>
          cases hr
          cases hq
          obtain ⟨S2, s1, s2, s3, s4, s5, s6, s7⟩ := r1 q hr2
          rw [show (34 : Int32) = nI 34 from rfl, s1]
          simp only [md_cs]
          refine good (((fr.w (by decide)).f s7 (by decide)).w (by decide)) (s2.w (by decide)) ?_ (fun _ => ?_) (by decide) (((fV.w (by decide)).tr s7 (fun _ z => z) (by decide)).w (by decide)) (by omega) (by omega)
          · rw [md_w2, if_neg (by decide), (s7 12 (by decide)).2, md_w2, if_pos rfl, upd_s]
          · rw [md_w2, if_pos rfl, upd_s, s4]
        next => cases hr
    · split at hq
      next w' hr =>
        cases hq
        split at hr
        · cases hr
        next w2 hr2 =>
          cases hr
          obtain ⟨S2, s1, s2, s3, s4⟩ := r2 w hr2
          rw [show (34 : Int32) = nI 34 from rfl, s1]
          simp only [md_cs]
          obtain ⟨S', b1, b2, b3⟩ := bad (S2 := md_w S2 17 D.1 (S2.1 87)) (w := w) s2 (((fV.w (by decide)).tr s4 (fun _ z => z) (by decide)).w (by decide))
          exact ⟨S', b1, b2, s3, b3⟩
      · cases hq
  · rw [if_neg c34]
    have wd : ∀ {v : List Nat} {k : Int32} {x1 : Int64}, (∀ m, m < v.length → (x1 >>> ((8 * nI m).toInt64 &&& 63) &&& 255).toInt32 = nI (lk v (v.length - 1 - m))) → (∀ j, j < v.length → lk v j ≠ 0 ∧ lk v j < 128) → v.length < 50 → 0 < v.length → k < 3 → lk t p = lk v 0 →
        (∀ D' p', (match rdW t v k p with | .inr w => .inr w | .inl (kd, sz, tx, p') => .inl (setP (addD D st.head? nm p) D.1 kd sz tx, p') : (dS × Nat) ⊕ Nat) = .inl (D', p') → ∃ S', (md_c (mo_word N x1 (nI v.length) (md_w S1 12 D.1 k)) fun S2 => mo_readValue_j341 N (nI D.1) S2) = some S' ∧ rT t p' S' ∧ p < p' ∧ p' ≤ t.length ∧ rD t (setF D' D.1 p') st S' ∧ rNm t (S'.1 22) (S'.1 23) [] ∧ nkd ((setF D' D.1 p').2 D.1) < 5 ∧ rF KV S S') ∧
        (∀ w, (match rdW t v k p with | .inr w => .inr w | .inl (kd, sz, tx, p') => .inl (setP (addD D st.head? nm p) D.1 kd sz tx, p') : (dS × Nat) ⊕ Nat) = .inr w → ∃ S', (md_c (mo_word N x1 (nI v.length) (md_w S1 12 D.1 k)) fun S2 => mo_readValue_j341 N (nI D.1) S2) = some S' ∧ rI w S' ∧ w < 1000 ∧ rF KV S S') := by
      intro v k x1 hx hv hv2 hv3 hk3 hpv
      obtain ⟨r1, r2⟩ := e_word ht (N := N) hx hv hv2 (fT.w (k := 12) (j := D.1) (v := k) (by decide)) (by omega) hN
      unfold rdW
      refine ⟨fun D' p' hq => ?_, fun w hq => ?_⟩
      · split at hq
        · cases hq
        next kd sz tx p1 hr =>
          split at hr
          next q hr2 =>
            cases hr
            cases hq
            obtain ⟨S2, s1, s2, s3, s4⟩ := r1 _ hr2
            rw [s1]
            simp only [md_cs]
            have hlt : p < p' := by
              obtain ⟨v1, hv1⟩ : ∃ m, v.length = m + 1 := ⟨v.length - 1, by omega⟩
              rw [hv1, exW, if_pos hpv] at hr2
              have : ∀ m i q q', exW t v m i q = .inl q' → q ≤ q' := by
                intro m
                induction m with
                | zero => intro i q q' z; cases z; omega
                | succ m ih =>
                  intro i q q' z
                  rw [exW] at z
                  split at z
                  · have := ih _ _ _ z; omega
                  · cases z
              have := this _ _ _ _ hr2
              omega
            refine good ((fr.w (by decide)).f s4 (by decide)) s2 ?_ (fun z => ?_) ?_ ((fV.w (by decide)).tr s4 (fun _ z => z) (by decide)) hlt s3
            · rw [(s4 12 (by decide)).2, md_w2, if_pos rfl, upd_s]
            · rcases z with rfl | rfl <;> exact absurd hk3 (by decide)
            · exact Int32.lt_of_lt_of_le hk3 (by decide)
          next => cases hr
      · split at hq
        next w' hr =>
          cases hq
          split at hr
          · cases hr
          next w2 hr2 =>
            cases hr
            obtain ⟨S2, s1, s2, s3, s4⟩ := r2 w hr2
            rw [s1]
            simp only [md_cs]
            obtain ⟨S', b1, b2, b3⟩ := bad (w := w) s2 ((fV.w (by decide)).tr s4 (fun _ z => z) (by decide))
            exact ⟨S', b1, b2, s3, b3⟩
        · cases hq
    have num : lk t p = 45 ∨ isDg t p →
        (∀ D' p', pL t D.1 (addD D st.head? nm p) p = .inl (D', p') → ∃ S', mo_readValue_j239 N (nI D.1) S1 = some S' ∧ rT t p' S' ∧ p < p' ∧ p' ≤ t.length ∧ rD t (setF D' D.1 p') st S' ∧ rNm t (S'.1 22) (S'.1 23) [] ∧ nkd ((setF D' D.1 p').2 D.1) < 5 ∧ rF KV S S') ∧
        (∀ w, pL t D.1 (addD D st.head? nm p) p = .inr w → ∃ S', mo_readValue_j239 N (nI D.1) S1 = some S' ∧ rI w S' ∧ w < 1000 ∧ rF KV S S') := by
      intro hc
      rw [pL_num (by unfold isDg at hc; omega) (by unfold isDg at hc; omega) (by unfold isDg at hc; omega) (by unfold isDg at hc; omega)]
      obtain ⟨r1, r2⟩ := e_readNumber ht (N := N) (lim := 6) (by decide) (fT.w (k := 12) (j := D.1) (v := 3) (by decide)) (by omega) hN
      unfold mo_readValue_j239
      simp only [if_pos (nI_in (show D.1 < 41 by omega) (by omega)), nI_clamp (show D.1 < 2 ^ 31 by omega), md_lx]
      refine ⟨fun D' p' hq => ?_, fun w hq => ?_⟩
      · split at hq
        · cases hq
        next v q hr =>
          cases hq
          obtain ⟨S2, s1, s2, s3, s4⟩ := r1 _ _ hr
          rw [show (6 : Int32) = nI 6 from rfl, s1]
          simp only [md_bs]
          have hlt : p < p' := rdN_lt hr
          refine good (((fr.w (by decide)).f s4 (by decide)).w (by decide)) (s2.w (by decide)) ?_ (fun _ => ?_) (by decide) (((fV.w (by decide)).tr s4 (fun _ z => z) (by decide)).w (by decide)) hlt s3
          · rw [md_w2, if_neg (by decide), (s4 12 (by decide)).2, md_w2, if_pos rfl, upd_s]
          · rw [md_w2, if_pos rfl, upd_s]
      · split at hq
        next w' hr =>
          cases hq
          obtain ⟨v, S2, s1, s2, s3, s4⟩ := r2 w hr
          rw [show (6 : Int32) = nI 6 from rfl, s1]
          simp only [md_bs]
          obtain ⟨S', b1, b2, b3⟩ := bad (S2 := md_w S2 17 D.1 v) (w := w) s2 (((fV.w (by decide)).tr s4 (fun _ z => z) (by decide)).w (by decide))
          exact ⟨S', b1, b2, s3, b3⟩
        · cases hq
    by_cases c45 : lk t p = 45
    · rw [if_pos c45]
      exact num (Or.inl c45)
    · rw [if_neg c45, e_dg ht]
      simp only [md_bs, i01]
      by_cases cd : isDg t p
      · have := cd.1
        have := cd.2
        rw [if_neg (show ¬ ¬ isDg t p from fun z => z cd)]
        exact num (Or.inr cd)
      · rw [if_pos cd]
        by_cases c116 : lk t p = 116
        · unfold pL rdP
          rw [if_pos c116, if_neg c34, if_neg (show ¬ lk t p = 110 by omega), if_neg (show ¬ lk t p = 102 by omega), if_pos c116]
          exact wd (v := tTrue) wd_true (by decide) (by decide) (by decide) (by decide) c116
        · rw [if_neg c116]
          by_cases c102 : lk t p = 102
          · unfold pL rdP
            rw [if_pos c102, if_neg c34, if_neg (show ¬ lk t p = 110 by omega), if_pos c102]
            exact wd (v := tFalse) wd_false (by decide) (by decide) (by decide) (by decide) c102
          · rw [if_neg c102]
            by_cases c110 : lk t p = 110
            · unfold pL rdP
              rw [if_pos c110, if_neg c34, if_pos c110]
              exact wd (v := tNull) wd_null (by decide) (by decide) (by decide) (by decide) c110
            · rw [if_neg c110, pL_num c34 c110 c102 c116, e_fail fT.2.2]
              simp only [md_cs]
              have hr : rdN t 6 p = .inr p := by
                unfold rdN
                simp only [if_neg c45]
                rw [if_neg (fun z => cd ⟨by omega, by omega⟩), if_pos (Or.inl cd)]
              rw [hr]
              refine ⟨fun D' p' hq => (nomatch hq), fun w hq => ?_⟩
              cases hq
              obtain ⟨S', b1, b2, b3⟩ := bad (S2 := md_p S1 7 (S1.1 6)) (w := p) (by unfold rI; rw [md_p1, if_pos rfl]; exact fT.2.1) (fV.p (by decide))
              exact ⟨S', b1, b2, by omega, b3⟩
