theorem dL_endI {t : List Nat} (ht : tOk t) {N p : Nat} {s : Int32} {S : md_S} (hN : 161 ≤ N) (hT : rT t p S) (hp : p ≤ t.length) (he : t.length ≤ bl t p) (hs : ¬ (s = 4 ∧ S.1 21 ≤ 0)) : ∃ S', (∀ n, dL N (n + 2) s S = some S') ∧ rI (bl t p) S' ∧ rF [6, 7] S S' := by
  have h160 := ht.1
  have hb := bl_le (t := t) hp
  obtain ⟨S4, x1, x2, x3⟩ := e_blanks ht hT hp hN
  refine ⟨md_p S4 7 (S4.1 6), fun m => ?_, ?_, (x3.mn (K := [6, 7]) (by decide)).p (by decide)⟩
  · rw [dL, mo_readDocument_l24, if_neg (by decide), e_good hT.2.2]
    simp only [md_bs]
    rw [if_neg (by decide), x1]
    simp only [md_cs]
    rw [e_atp x2 ht (by omega)]
    simp only [md_bs, aT_m1 ht, if_pos he]
    have hj : (if s = 4 then if S4.1 21 ≤ 0 then mo_readDocument_l24 N (m + 1) s 0 S4 else md_c (mo_fail (S4.1 6) S4) fun S70 => mo_readDocument_l24 N (m + 1) s 0 S70 else md_c (mo_fail (S4.1 6) S4) fun S70 => mo_readDocument_l24 N (m + 1) s 0 S70) = md_c (mo_fail (S4.1 6) S4) fun S70 => mo_readDocument_l24 N (m + 1) s 0 S70 := by
      by_cases e : s = 4
      · rw [if_pos e, if_neg (fun z => hs ⟨e, by rw [← (x3 21 (by decide)).1]; exact z⟩)]
      · rw [if_neg e]
    rw [hj, e_fail x2.2.2]
    simp only [md_cs]
    rw [mo_readDocument_l24, if_pos rfl]
  · unfold rI
    rw [md_p1, if_pos rfl]; exact x2.2.1
theorem vK_ill {N w : Nat} {x : Int32} {S : md_S} (h : rI w S) (hw : w < 1000) : vK N x S = some (4, S) := by
  unfold vK
  rw [e_ill h hw]
  simp only [md_bs, if_true]
  rfl
theorem vK_ok {t : List Nat} {N n : Nat} {S : md_S} {D : dS} {st : List Nat} (h7 : S.1 7 = -1) (hD : rD t D st S) (hn : n < D.1) : vK N (nI n) S = some (if nkd (D.2 n) < 5 then 4 else if nkd (D.2 n) = 5 then 1 else 2, S) := by
  have := hD.2.1
  unfold vK
  rw [e_good h7]
  simp only [md_bs]
  rw [if_neg (by decide)]
  simp only [if_pos (nI_in (show n < 41 by omega) (by omega)), nI_clamp (show n < 2 ^ 31 by omega), (hD.2.2.1 n hn).1]
  unfold mo_readStep_j179 mo_readStep_j160 mo_readStep_j179
  by_cases e : nkd (D.2 n) < 5
  · rw [if_neg (Int32.not_le.mpr e), if_pos e]
  · rw [if_pos (Int32.not_lt.mp e), if_neg e]
    split <;> rfl
theorem VPl {t : List Nat} (ht : tOk t) {N : Nat} (hN : 161 ≤ N) : ∀ lv, VP t N lv := by
  have h160 := ht.1
  intro lv
  induction lv with
  | zero => 
    intro D p st nm S s hT hp hD hn hK hl hs
    have hbp := bl_le (t := t) hp
    have hbg := bl_ge ht p
    by_cases he : bl t p < t.length
    · obtain ⟨S1, a1, a2, a3⟩ := dL_st ht (s := s) hN hT hp he
      have hD1 : rD t D st S1 := hD.f a2 (by decide) (fun k h1 h2 z => by simp at z; omega)
      have hn1 : rNm t (S1.1 22) (S1.1 23) nm := by rw [(a2 22 (by decide)).1, (a2 23 (by decide)).1]; exact hn
      have sv := st_val ht (N := N) a1 he hs
      rw [hD1.1] at sv
      have ill : ∀ w, w < 1000 → (∃ S', mo_readValue N S1 = some S' ∧ rI w S' ∧ rF KD S1 S') → ∃ k S', k + p ≤ t.length + 2 ∧ (∀ n, dL N (n + k) s S = some S') ∧ rI w S' ∧ w < 1000 ∧ rF KD S S' := fun w hw ⟨S', b1, b2, b3⟩ => by
        refine ⟨2, S', by omega, fun n => ?_, b2, hw, a2.tr b3 (by decide) (fun _ z => z)⟩
        rw [show n + 2 = (n + 1) + 1 from rfl, a3, sv, b1]
        simp only [md_cs]
        rw [vK_ill b2 hw]
        exact dL_ill b2 hw
      unfold pV
      by_cases h40 : 40 ≤ D.1
      · rw [if_pos h40]
        refine ⟨fun D' p' hq => (nomatch hq), fun w hq => ?_⟩
        cases hq
        have e40 : D.1 = 40 := by have := hD.2.1; omega
        obtain ⟨S', b1, b2, b3⟩ := e_full (N := N) a1 (by rw [hD1.1, e40])
        exact ill _ (by omega) ⟨S', b1, b2, b3.mn (by decide)⟩
      · rw [if_neg h40]
        by_cases hb : lk t (bl t p) = 91 ∨ lk t (bl t p) = 123
        · rw [if_pos hb]
          refine ⟨fun D' p' hq => (nomatch hq), fun w hq => ?_⟩
          cases hq
          have hob : ∃ ob, lk t (bl t p) = obO ob := by
            rcases hb with z | z
            · exact ⟨false, z⟩
            · exact ⟨true, z⟩
          obtain ⟨ob, hob⟩ := hob
          obtain ⟨S', b1, b2, b3⟩ := (e_box ht (N := N) a1 he hD1 hn1 (by omega) hob).1 (by omega)
          exact ill _ (by omega) ⟨S', b1, b2, b3.mn (by decide)⟩
        · rw [if_neg hb]
          obtain ⟨l1, l2⟩ := e_leaf ht (N := N) a1 he hD1 hn1 hN (by omega) (fun z => hb (Or.inl z)) (fun z => hb (Or.inr z))
          cases hr : pL t D.1 (addD D st.head? nm (bl t p)) (bl t p) with
          | inr w =>
            refine ⟨fun D' p' hq => (nomatch hq), fun w' hq => ?_⟩
            cases hq
            obtain ⟨S', b1, b2, b3, b4⟩ := l2 w hr
            exact ill _ b3 ⟨S', b1, b2, b4.mn (by decide)⟩
          | inl q =>
            obtain ⟨D1, p1⟩ := q
            refine ⟨fun D' p' hq => ?_, fun w' hq => (nomatch hq)⟩
            obtain ⟨S', b1, b2, b3, b4, b5, b6, b7, b8⟩ := l1 D1 p1 hr
            have hD' : D' = setF D1 D.1 p1 ∧ p' = bl t p1 := by
              unfold pF at hq
              cases hq
              exact ⟨rfl, rfl⟩
            obtain ⟨rfl, rfl⟩ := hD'
            have hX : ∃ kd sz tx, D1 = setP (addD D st.head? nm (bl t p)) D.1 kd sz tx := by
              unfold pL at hr
              split at hr
              · cases hr
              next kd sz tx q' _ => cases hr; exact ⟨kd, sz, tx, rfl⟩
            obtain ⟨kd, sz, tx, rfl⟩ := hX
            have hd1 : (setF (setP (addD D st.head? nm (bl t p)) D.1 kd sz tx) D.1 p1).1 = D.1 + 1 := addD1
            refine ⟨1, S', p1, rfl, b4, by omega, fun n => ?_, b2, b5, b6, ?_, by rw [hd1]; omega, fun x hx => ?_, a2.tr (b8.mn (K := KD) (by decide)) (by decide) (fun _ z => z)⟩
            · rw [a3, sv, b1]
              simp only [md_cs]
              rw [vK_ok b2.2.2 b5 (by rw [hd1]; omega), if_pos b7]
              rfl
            · refine dK_U (dK_U (dK_add hK (fun o ho => ?_)) ?_ ?_) ?_ ?_ <;> try rfl
              exact (hD.2.2.2.2.2.2 o (List.mem_of_mem_head? ho)).1
            · unfold setF
              rw [dU_n (by omega)]
              unfold setP
              rw [dU_n (by omega), kd_add (by omega)]
    · have hz : lk t (bl t p) = 0 := lk_ge (by omega)
      rw [pV_end hz]
      refine ⟨fun D' p' hq => (nomatch hq), fun w hq => ?_⟩
      cases hq
      obtain ⟨S', b1, b2, b3⟩ := dL_endI ht (s := s) hN hT hp (by omega) (fun z => by
        rcases hs with q | q
        · rw [q] at z; exact absurd z.1 (by decide)
        · rw [q.1] at z; exact absurd z.1 (by decide))
      exact ⟨2, S', by omega, b1, b2, by omega, b3.mn (by decide)⟩
  | succ lv ih =>
    intro D p st nm S s hT hp hD hn hK hl hs
    have hbp := bl_le (t := t) hp
    have hbg := bl_ge ht p
    by_cases he : bl t p < t.length
    · obtain ⟨S1, a1, a2, a3⟩ := dL_st ht (s := s) hN hT hp he
      have hD1 : rD t D st S1 := hD.f a2 (by decide) (fun k h1 h2 z => by simp at z; omega)
      have hn1 : rNm t (S1.1 22) (S1.1 23) nm := by rw [(a2 22 (by decide)).1, (a2 23 (by decide)).1]; exact hn
      have sv := st_val ht (N := N) a1 he hs
      rw [hD1.1] at sv
      have ill : ∀ w, w < 1000 → (∃ S', mo_readValue N S1 = some S' ∧ rI w S' ∧ rF KD S1 S') → ∃ k S', k + p ≤ t.length + 2 ∧ (∀ n, dL N (n + k) s S = some S') ∧ rI w S' ∧ w < 1000 ∧ rF KD S S' := fun w hw ⟨S', b1, b2, b3⟩ => by
        refine ⟨2, S', by omega, fun n => ?_, b2, hw, a2.tr b3 (by decide) (fun _ z => z)⟩
        rw [show n + 2 = (n + 1) + 1 from rfl, a3, sv, b1]
        simp only [md_cs]
        rw [vK_ill b2 hw]
        exact dL_ill b2 hw
      unfold pV
      by_cases h40 : 40 ≤ D.1
      · rw [if_pos h40]
        refine ⟨fun D' p' hq => (nomatch hq), fun w hq => ?_⟩
        cases hq
        have e40 : D.1 = 40 := by have := hD.2.1; omega
        obtain ⟨S', b1, b2, b3⟩ := e_full (N := N) a1 (by rw [hD1.1, e40])
        exact ill _ (by omega) ⟨S', b1, b2, b3.mn (by decide)⟩
      · rw [if_neg h40]
        by_cases hb : lk t (bl t p) = 91 ∨ lk t (bl t p) = 123
        · rw [if_pos hb]
          have hob : ∃ ob, lk t (bl t p) = obO ob ∧ (lk t (bl t p) == 123) = ob := by
            rcases hb with z | z
            · exact ⟨false, z, by rw [z]; rfl⟩
            · exact ⟨true, z, by rw [z]; rfl⟩
          obtain ⟨ob, hob, hob2⟩ := hob
          rw [hob2]
          obtain ⟨S2, b1, b2, b3, b4, b5⟩ := (e_box ht (N := N) a1 he hD1 hn1 (by omega) hob).2 (by omega)
          have hK2 : dK (setK (addD D st.head? nm (bl t p)) D.1 (obK ob)) := dK_U (dK_add hK (fun o ho => (hD.2.2.2.2.2.2 o (List.mem_of_mem_head? ho)).1)) rfl rfl
          have hd1 : (setK (addD D st.head? nm (bl t p)) D.1 (obK ob)).1 = D.1 + 1 := addD1
          have hkd : nkd ((setK (addD D st.head? nm (bl t p)) D.1 (obK ob)).2 D.1) = obK ob := by
            unfold setK
            rw [dU_s]
          have fS2 : rF KD S S2 := a2.tr b5 (by decide) (fun _ z => z)
          have stp : ∀ n, dL N (n + 1) s S = dL N n (if ob = true then 2 else 1) S2 := fun n => by
            rw [a3, sv, b1]
            simp only [md_cs]
            rw [vK_ok b2.2.2 b3 (by rw [hd1]; omega), hkd]
            cases ob <;> rfl
          have hkx : ∀ x, x < D.1 → nkd ((setK (addD D st.head? nm (bl t p)) D.1 (obK ob)).2 x) = nkd (D.2 x) := fun x hx => by
            unfold setK
            rw [dU_n (by omega), kd_add (by omega)]
          unfold pB
          have hb1 := bl_ge ht (bl t p + 1)
          by_cases hcl : lk t (bl t (bl t p + 1)) = obC ob
          · rw [if_pos hcl]
            refine ⟨fun D' p' hq => ?_, fun w hq => ?_⟩
            · have hlt := lk_lt hcl (by cases ob <;> decide)
              obtain ⟨S3, c1, c2, c3⟩ := dL_st ht (s := if ob = true then 2 else 1) hN b2 (by omega) hlt
              have hD3 := b3.f c2 (by decide) (fun k h1 h2 z => by simp at z; omega)
              obtain ⟨S4, d1, d2, d3, d4, d5, d6⟩ := (e_shut ht (ob := ob) c1 hD3).1 hkd
              unfold pF at hq
              cases hq
              refine ⟨2, S4, bl t (bl t p + 1) + 1, rfl, by omega, by omega, fun n => ?_, d2, d3, ?_, ?_, ?_, fun x hx => ?_, (fS2.tr c2 (fun _ z => z) (by decide)).tr d6 (fun _ z => z) (fun _ z => z)⟩
              · rw [show n + 2 = (n + 1) + 1 from rfl, stp, c3, st_shut ht c1 hcl (Or.inr rfl), d1]
                rfl
              · rw [d4, d5, (c2 22 (by decide)).1, (c2 23 (by decide)).1]; exact b4
              · exact dK_U hK2 rfl rfl
              · show D.1 < (addD D st.head? nm (bl t p)).1
                rw [addD1]; omega
              · unfold setF
                rw [dU_n (by omega)]
                exact hkx x hx
            · unfold pF at hq
              cases hq
          · rw [if_neg hcl]
            obtain ⟨i1, i2⟩ := EPl ht hN ih (n := D.1) (st := st) (ob := ob) (by omega) 40 (setK (addD D st.head? nm (bl t p)) D.1 (obK ob)) (bl t p + 1) S2 (if ob = true then 2 else 1) b2 (by omega) b3 hK2 hkd (by rw [hd1]; omega) (fun _ => b4) (fun z => by subst z; exact Or.inr ⟨rfl, hcl⟩) (fun z => by subst z; exact Or.inr ⟨rfl, hcl⟩)
            have hpe : ∀ k X, pE t (fun D' p' nm' => pV t lv D' p' (some D.1) nm') ob D.1 (k + 1) X (bl t (bl t p + 1)) = pE t (fun D' p' nm' => pV t lv D' p' (some D.1) nm') ob D.1 (k + 1) X (bl t p + 1) := fun k X => by
              rw [pE, pE]
              cases ob with
              | true =>
                have : pH t X D.1 true (bl t (bl t p + 1)) = pH t X D.1 true (bl t p + 1) := rdMem_bl ht
                rw [this]
              | false =>
                unfold pH
                rw [if_neg (by decide), if_neg (by decide)]
                show (match pV t lv X (bl t (bl t p + 1)) (some D.1) [] with | .inr w => _ | .inl (D', p') => _ : (dS × Nat) ⊕ Nat) = (match pV t lv X (bl t p + 1) (some D.1) [] with | .inr w => _ | .inl (D', p') => _ : (dS × Nat) ⊕ Nat)
                have : pV t lv X (bl t (bl t p + 1)) (some D.1) [] = pV t lv X (bl t p + 1) (some D.1) [] := by
                  cases lv with
                  | zero => unfold pV; rw [bl_bl ht]
                  | succ lv => unfold pV; rw [bl_bl ht]
                rw [this]
            rw [hpe 39]
            cases hr : pE t (fun D' p' nm' => pV t lv D' p' (some D.1) nm') ob D.1 40 (setK (addD D st.head? nm (bl t p)) D.1 (obK ob)) (bl t p + 1) with
            | inr w =>
              refine ⟨fun D' p' hq => (nomatch hq), fun w' hq => ?_⟩
              cases hq
              obtain ⟨k, S3, e1, e2, e3, e4, e5⟩ := i2 w hr
              refine ⟨k + 1, S3, by omega, fun n => ?_, e3, e4, fS2.tr e5 (fun _ z => z) (fun _ z => z)⟩
              rw [← Nat.add_assoc, stp, e2]
            | inl q =>
              obtain ⟨D3, p3⟩ := q
              refine ⟨fun D' p' hq => ?_, fun w' hq => (nomatch hq)⟩
              obtain ⟨k, S3, e1, e2, e3, e4, e5, e6, e7, e8, e9, e10⟩ := i1 D3 p3 hr
              have hD' : D' = setF D3 D.1 p3 ∧ p' = bl t p3 := by
                unfold pF at hq
                cases hq
                exact ⟨rfl, rfl⟩
              obtain ⟨rfl, rfl⟩ := hD'
              rw [hd1] at e8 e9
              refine ⟨k + 1, S3, p3, rfl, e2, by omega, fun n => ?_, e4, e5, e6, dK_U e7 rfl rfl, by show D.1 < D3.1; omega, fun x hx => ?_, fS2.tr e10 (fun _ z => z) (fun _ z => z)⟩
              · rw [← Nat.add_assoc, stp, e3]
              · unfold setF
                rw [dU_n (by omega), e9 x (by omega)]
                exact hkx x hx
        · rw [if_neg hb]
          obtain ⟨l1, l2⟩ := e_leaf ht (N := N) a1 he hD1 hn1 hN (by omega) (fun z => hb (Or.inl z)) (fun z => hb (Or.inr z))
          cases hr : pL t D.1 (addD D st.head? nm (bl t p)) (bl t p) with
          | inr w =>
            refine ⟨fun D' p' hq => (nomatch hq), fun w' hq => ?_⟩
            cases hq
            obtain ⟨S', b1, b2, b3, b4⟩ := l2 w hr
            exact ill _ b3 ⟨S', b1, b2, b4.mn (by decide)⟩
          | inl q =>
            obtain ⟨D1, p1⟩ := q
            refine ⟨fun D' p' hq => ?_, fun w' hq => (nomatch hq)⟩
            obtain ⟨S', b1, b2, b3, b4, b5, b6, b7, b8⟩ := l1 D1 p1 hr
            have hD' : D' = setF D1 D.1 p1 ∧ p' = bl t p1 := by
              unfold pF at hq
              cases hq
              exact ⟨rfl, rfl⟩
            obtain ⟨rfl, rfl⟩ := hD'
            have hX : ∃ kd sz tx, D1 = setP (addD D st.head? nm (bl t p)) D.1 kd sz tx := by
              unfold pL at hr
              split at hr
              · cases hr
              next kd sz tx q' _ => cases hr; exact ⟨kd, sz, tx, rfl⟩
            obtain ⟨kd, sz, tx, rfl⟩ := hX
            have hd1 : (setF (setP (addD D st.head? nm (bl t p)) D.1 kd sz tx) D.1 p1).1 = D.1 + 1 := addD1
            refine ⟨1, S', p1, rfl, b4, by omega, fun n => ?_, b2, b5, b6, ?_, by rw [hd1]; omega, fun x hx => ?_, a2.tr (b8.mn (K := KD) (by decide)) (by decide) (fun _ z => z)⟩
            · rw [a3, sv, b1]
              simp only [md_cs]
              rw [vK_ok b2.2.2 b5 (by rw [hd1]; omega), if_pos b7]
              rfl
            · refine dK_U (dK_U (dK_add hK (fun o ho => ?_)) ?_ ?_) ?_ ?_ <;> try rfl
              exact (hD.2.2.2.2.2.2 o (List.mem_of_mem_head? ho)).1
            · unfold setF
              rw [dU_n (by omega)]
              unfold setP
              rw [dU_n (by omega), kd_add (by omega)]
    · have hz : lk t (bl t p) = 0 := lk_ge (by omega)
      rw [pV_end hz]
      refine ⟨fun D' p' hq => (nomatch hq), fun w hq => ?_⟩
      cases hq
      obtain ⟨S', b1, b2, b3⟩ := dL_endI ht (s := s) hN hT hp (by omega) (fun z => by
        rcases hs with q | q
        · rw [q] at z; exact absurd z.1 (by decide)
        · rw [q.1] at z; exact absurd z.1 (by decide))
      exact ⟨2, S', by omega, b1, b2, by omega, b3.mn (by decide)⟩
/-- the reference reads a document as pD says -/
theorem e_document {t : List Nat} (ht : tOk t) {N : Nat} {S : md_S} (hN : 500 ≤ N) (hT : rT t 0 S) :
    (∀ D, pD t = .inl D → ∃ S' p, mo_readDocument N S = some S' ∧ rT t p S' ∧ rD t D [] S' ∧ dK D ∧ rF KD S S') ∧
    (∀ w, pD t = .inr w → ∃ S', mo_readDocument N S = some S' ∧ rI w S' ∧ w < 1000 ∧ rF KD S S') := by
  have h160 := ht.1
  unfold mo_readDocument
  simp only [md_lx]
  obtain ⟨S0, hS0⟩ : ∃ S0, S0 = md_p (md_p (md_p (md_p S 10 0) 21 0) 22 (-1)) 23 0 := ⟨_, rfl⟩
  rw [← hS0]
  have f0 : rF [10, 21, 22, 23] S S0 := by
    rw [hS0]
    exact (((rF.rf.p (by decide)).p (by decide)).p (by decide)).p (by decide)
  have g10 : S0.1 10 = 0 := by rw [hS0]; simp [md_p1]
  have g21 : S0.1 21 = 0 := by rw [hS0]; simp [md_p1]
  have g23 : S0.1 23 = 0 := by rw [hS0]; simp [md_p1]
  have hD0 : rD t (0, fun _ => nR0) [] S0 := ⟨g10, by simp, fun i hi => absurd hi (by simp), g21, by simp, trivial, fun x hx => (nomatch hx)⟩
  have hK0 : dK (0, fun _ => nR0) := ⟨fun n hn => absurd hn (by simp), fun k hk => absurd hk (by simp)⟩
  obtain ⟨v1, v2⟩ := VPl ht (N := N) (by omega) 6 (0, fun _ => nR0) 0 [] [] S0 0 (hT.f f0 (by decide) (by decide) (by decide) (by decide)) (by omega) hD0 (Or.inl ⟨g23, rfl⟩) hK0 (by simp) (Or.inl rfl)
  unfold pD
  have hh : ([] : List Nat).head? = none := rfl
  rw [hh] at v1 v2
  cases hr : pV t 6 (0, fun _ => nR0) 0 none [] with
  | inr w =>
    refine ⟨fun D hq => (nomatch hq), fun w' hq => ?_⟩
    cases hq
    obtain ⟨k, S', a1, a2, a3, a4, a5⟩ := v2 w hr
    refine ⟨S', ?_, a3, a4, f0.tr a5 (by decide) (fun _ z => z)⟩
    have := a2 (N - k)
    rw [show N - k + k = N by omega] at this
    exact this
  | inl q =>
    obtain ⟨D, p'⟩ := q
    obtain ⟨k, S', pe, a0, a1, a2, a3, a4, a5, a6, a7, a8, a9, a10⟩ := v1 D p' hr
    subst a0
    have hbp := bl_le (t := t) a1
    have go : ∀ n, dL N (n + (N - k - n) + k) 0 S0 = dL N (n + (N - k - n)) 4 S' := fun n => a3 _
    have fS : rF KD S S' := f0.tr a10 (by decide) (fun _ z => z)
    by_cases he : bl t pe < t.length
    · refine ⟨fun D' hq => ?_, fun w hq => ?_⟩
      · exfalso
        have hq' : (if bl t pe < t.length then .inr (bl t pe) else .inl D : dS ⊕ Nat) = .inl D' := hq
        rw [if_pos he] at hq'
        cases hq'
      · have hq' : (if bl t pe < t.length then .inr (bl t pe) else .inl D : dS ⊕ Nat) = .inr w := hq
        rw [if_pos he] at hq'
        cases hq'
        obtain ⟨S1, b1, b2, b3⟩ := dL_st ht (N := N) (s := 4) (by omega) a4 a1 he
        have hD1 : rD t D [] S1 := a5.f b2 (by decide) (fun k h1 h2 z => by simp at z; omega)
        have : ∃ v S', mo_readStep N 4 S1 = some (v, S') ∧ rI (bl t pe) S' ∧ rF [7] S1 S' := by
          by_cases h93 : lk t (bl t pe) = 93
          · obtain ⟨S2, c1, c2, c3⟩ := e_shut0 (x := obK false) b1 hD1
            refine ⟨4, S2, ?_, c2, c3⟩
            rw [st_shut ht (ob := false) b1 h93 (Or.inl rfl), c1]
            rfl
          · by_cases h125 : lk t (bl t pe) = 125
            · obtain ⟨S2, c1, c2, c3⟩ := e_shut0 (x := obK true) b1 hD1
              refine ⟨4, S2, ?_, c2, c3⟩
              rw [st_shut ht (ob := true) b1 h125 (Or.inl rfl), c1]
              rfl
            · exact st_bad ht b1 he hD1 h93 h125 (Or.inr rfl)
        obtain ⟨v, S2, c1, c2, c3⟩ := this
        refine ⟨S2, ?_, c2, by omega, (fS.tr b2 (fun _ z => z) (by decide)).tr c3 (fun _ z => z) (by decide)⟩
        have := a3 (N - k - 2 + 1 + 1)
        rw [show N - k - 2 + 1 + 1 + k = N by omega, b3, c1] at this
        refine this.trans ?_
        exact dL_ill c2 (by omega)
    · refine ⟨fun D' hq => ?_, fun w hq => ?_⟩
      · have hq' : (if bl t pe < t.length then .inr (bl t pe) else .inl D : dS ⊕ Nat) = .inl D' := hq
        rw [if_neg he] at hq'
        cases hq'
        obtain ⟨S2, c1, c2, c3⟩ := (dL_end ht (N := N) (n := N - k - 2) (s := 4) (by omega) a4 a1 (by omega)).1 rfl a5.2.2.2.1
        refine ⟨S2, bl t pe, ?_, c2, a5.f c3 (by decide) (fun k h1 h2 z => by simp at z; omega), a7, fS.tr c3 (fun _ z => z) (by decide)⟩
        have := a3 (N - k - 2 + 2)
        rw [show N - k - 2 + 2 + k = N by omega] at this
        exact this.trans c1
      · have hq' : (if bl t pe < t.length then .inr (bl t pe) else .inl D : dS ⊕ Nat) = .inr w := hq
        rw [if_neg he] at hq'
        cases hq'
