abbrev obK (ob : Bool) : Int32 := if ob = true then 6 else 5
abbrev obO (ob : Bool) : Nat := if ob = true then 123 else 91
abbrev obC (ob : Bool) : Nat := if ob = true then 125 else 93
theorem e_full {t : List Nat} {N p : Nat} {S : md_S} (hT : rT t p S) (h10 : S.1 10 = nI 40) : ∃ S', mo_readValue N S = some S' ∧ rI p S' ∧ rF [7] S S' := by
  unfold mo_readValue
  rw [if_pos (show S.1 10 = 40 from h10), e_fail hT.2.2]
  refine ⟨_, rfl, ?_, rF.rf.p (by decide)⟩
  unfold rI
  rw [md_p1, if_pos rfl]; exact hT.2.1
theorem e_box {t : List Nat} (ht : tOk t) {D : dS} {st : List Nat} {S : md_S} {N p : Nat} {nm : List Nat} {ob : Bool} (hT : rT t p S) (hp : p < t.length) (hD : rD t D st S) (hn : rNm t (S.1 22) (S.1 23) nm) (h40 : D.1 < 40) (hc : lk t p = obO ob) :
    (st.length = 6 → ∃ S', mo_readValue N S = some S' ∧ rI p S' ∧ rF [7] S S') ∧
    (st.length < 6 → ∃ S', mo_readValue N S = some S' ∧ rT t (p + 1) S' ∧ rD t (setK (addD D st.head? nm p) D.1 (obK ob)) (D.1 :: st) S' ∧ rNm t (S'.1 22) (S'.1 23) [] ∧ rF KD S S') := by
  have h160 := ht.1
  have hl := hD.2.2.2.2.1
  have hk := hD.2.2.2.2.2.2
  unfold mo_readValue
  have ne40 : ¬ nI D.1 = 40 := fun z => by
    have := (nI_eq (a := D.1) (b := 40) (by omega) (by omega)).mp z
    omega
  rw [hD.1, if_neg ne40, e_atp hT ht (by omega)]
  simp only [md_bs, aT_91 ht, aT_123 ht]
  have hj : (if lk t p = 91 then mo_readValue_j44 N (nI D.1) (aT t p) S else if lk t p = 123 then mo_readValue_j44 N (nI D.1) (aT t p) S else mo_readValue_j49 N (nI D.1) (aT t p) 0 S) = mo_readValue_j44 N (nI D.1) (aT t p) S := by
    cases ob
    · rw [if_pos (show lk t p = 91 from hc)]
    · rw [if_neg (show ¬ lk t p = 91 by rw [hc]; decide), if_pos (show lk t p = 123 from hc)]
  rw [hj]
  unfold mo_readValue_j44 mo_readValue_j49
  rw [if_neg (by decide)]
  refine ⟨fun h6 => ?_, fun h6 => ?_⟩
  · rw [if_pos (by rw [hD.2.2.2.1, h6]; rfl), e_fail hT.2.2]
    refine ⟨_, rfl, ?_, rF.rf.p (by decide)⟩
    unfold rI
    rw [md_p1, if_pos rfl]; exact hT.2.1
  · have ne6 : ¬ S.1 21 = 6 := fun z => by
      rw [hD.2.2.2.1] at z
      have := (nI_eq (a := st.length) (b := 6) (by omega) (by omega)).mp z
      omega
    rw [if_neg ne6]
    unfold mo_readValue_j72
    rw [e_top hD]
    simp only [md_bs, md_lx, if_pos (nI_in (show D.1 < 41 by omega) (by omega)), nI_clamp (show D.1 < 2 ^ 31 by omega), if_true, aT_91 ht, md_w1, hT.2.1]
    obtain ⟨S1, hS1⟩ : ∃ S', S' = md_w (md_p (md_p (md_w (md_w (md_w (md_w S 13 D.1 (oI st.head?)) 15 D.1 (nI p)) 18 D.1 (S.1 22)) 19 D.1 (S.1 23)) 22 (-1)) 23 0) 17 D.1 0 := ⟨_, rfl⟩
    rw [← hS1]
    obtain ⟨fT, fa, fb, fc, fd, fe, fg, fh, fi, fj, f0⟩ := e_front (kd := 0) hT hD hn h40 hS1
    have hj2 : (if (1 : Int32) = 0 then (none : Option md_S) else if lk t p = 91 then mo_readValue_j150 N (nI D.1) 5 (nI D.1) S1 else mo_readValue_j150 N (nI D.1) 6 (nI D.1) S1) = mo_readValue_j150 N (nI D.1) (obK ob) (nI D.1) S1 := by
      rw [if_neg (by decide)]
      cases ob
      · rw [if_pos (show lk t p = 91 from hc)]; rfl
      · rw [if_neg (show ¬ lk t p = 91 by rw [hc]; decide)]; rfl
    rw [if_neg (show ¬ ((1 : Int32) = 0) by decide)] at hj2 ⊢
    rw [hj2]
    unfold mo_readValue_j150
    have e21 : (md_p (md_w S1 12 D.1 (obK ob)) 10 ((md_w S1 12 D.1 (obK ob)).1 10 + 1)).1 21 = nI st.length := by
      rw [md_p1, if_neg (by decide)]; exact fb
    simp only [md_lx, if_pos (nI_in (show D.1 < 41 by omega) (by omega)), nI_clamp (show D.1 < 2 ^ 31 by omega), e21, if_pos (nI_in (show st.length < 8 by omega) (by omega)), nI_clamp (show st.length < 2 ^ 31 by omega)]
    refine ⟨_, rfl, ?_⟩
    obtain ⟨S2, hS2⟩ : ∃ S', S' = md_p (md_p (md_w (md_p (md_w S1 12 D.1 (obK ob)) 10 ((md_w S1 12 D.1 (obK ob)).1 10 + 1)) 20 st.length (nI D.1)) 21 ((md_w (md_p (md_w S1 12 D.1 (obK ob)) 10 ((md_w S1 12 D.1 (obK ob)).1 10 + 1)) 20 st.length (nI D.1)).1 21 + 1)) 6 ((md_p (md_w (md_p (md_w S1 12 D.1 (obK ob)) 10 ((md_w S1 12 D.1 (obK ob)).1 10 + 1)) 20 st.length (nI D.1)) 21 ((md_w (md_p (md_w S1 12 D.1 (obK ob)) 10 ((md_w S1 12 D.1 (obK ob)).1 10 + 1)) 20 st.length (nI D.1)).1 21 + 1)).1 6 + 1) := ⟨_, rfl⟩
    rw [← hS2]
    have f : rF [6, 10, 12, 20, 21] S1 S2 := by
      rw [hS2]
      exact ((((rF.rf.w (by decide)).p (by decide)).w (by decide)).p (by decide)).p (by decide)
    have g6 : S2.1 6 = nI (p + 1) := by
      rw [hS2]
      simp only [md_p1, md_w1, if_true, (show (6 : Nat) ≠ 21 by decide), (show (6 : Nat) ≠ 10 by decide), if_false]
      rw [fT.2.1, nI_1]
    have g10 : S2.1 10 = nI (D.1 + 1) := by
      rw [hS2]
      simp only [md_p1, md_w1, if_true, (show (10 : Nat) ≠ 21 by decide), (show (10 : Nat) ≠ 6 by decide), if_false]
      rw [fa, nI_1]
    have g21 : S2.1 21 = nI (st.length + 1) := by
      rw [hS2]
      simp only [md_p1, md_w1, if_true, (show (21 : Nat) ≠ 10 by decide), (show (21 : Nat) ≠ 6 by decide), if_false]
      rw [fb, nI_1]
    have g12 : S2.2 12 = upd (S1.2 12) D.1 (obK ob) := by
      rw [hS2]
      simp [md_w2, md_p2]
    have g20 : S2.2 20 = upd (S1.2 20) st.length (nI D.1) := by
      rw [hS2]
      simp [md_w2, md_p2]
    refine ⟨⟨fT.1.f f (by decide) (by decide), g6, by rw [(f 7 (by decide)).1]; exact fT.2.2⟩, ⟨?_, ?_, fun q hq => ?_, ?_, ?_, ?_, fun x hx => ?_⟩, by rw [(f 22 (by decide)).1, (f 23 (by decide)).1]; exact fd, f0.tr f (by decide) (by decide)⟩
    · rw [g10]
      show _ = nI (addD D st.head? nm p).1
      rw [addD1]
    · show (addD D st.head? nm p).1 ≤ 40
      rw [addD1]; omega
    · have hq' : q < D.1 + 1 := by
        have : q < (addD D st.head? nm p).1 := hq
        rw [addD1] at this; exact this
      by_cases e1 : q = D.1
      · subst e1
        obtain ⟨pl, hpl⟩ := addD_s (D := D) (ou := st.head?) (nm := nm) (be := p)
        unfold setK
        rw [dU_s, hpl]
        refine ⟨by rw [g12, upd_s], by rw [(f 13 (by decide)).2]; exact fg, by rw [(f 15 (by decide)).2]; exact fh, fun z => ?_, by rw [(f 18 (by decide)).2, (f 19 (by decide)).2]; exact fj, fun e' a' ha => (nomatch ha)⟩
        exfalso
        have z' : obK ob = 3 ∨ obK ob = 4 := z
        cases ob <;> exact absurd z' (by decide)
      · unfold setK
        rw [dU_n e1]
        refine rN_add hk (by omega) ((fe q (by omega)).f fun k h1 h2 => ?_)
        by_cases e2 : k = 12
        · rw [e2, g12, upd_n e1]
        · rw [(f k (by simp; omega)).2]
    · rw [g21]; rfl
    · show st.length + 1 ≤ 6; omega
    · refine ⟨by rw [g20, upd_s], ?_⟩
      refine rP.u (j := st.length) (fun i hi => ?_) (Nat.le_refl _) fc
      rw [g20, upd_n (by omega)]
    · rcases List.mem_cons.mp hx with rfl | hx
      · refine ⟨?_, ?_⟩
        · show D.1 < (addD D st.head? nm p).1
          rw [addD1]; omega
        · unfold setK
          rw [dU_s]
          cases ob
          · exact Or.inl rfl
          · exact Or.inr rfl
      · have := hk x hx
        refine ⟨?_, ?_⟩
        · show x < (addD D st.head? nm p).1
          rw [addD1]; omega
        · unfold setK
          rw [dU_n (by omega), addD_n (by omega)]
          split
          · exact this.2
          · exact this.2
theorem e_shut {t : List Nat} (ht : tOk t) {D : dS} {st : List Nat} {S : md_S} {p n : Nat} {ob : Bool} (hT : rT t p S) (hD : rD t D (n :: st) S) :
    (nkd (D.2 n) = obK ob → ∃ S', mo_shut (obK ob) S = some S' ∧ rT t (p + 1) S' ∧ rD t (setF D n (p + 1)) st S' ∧ S'.1 22 = S.1 22 ∧ S'.1 23 = S.1 23 ∧ rF KD S S') ∧
    (nkd (D.2 n) ≠ obK ob → ∃ S', mo_shut (obK ob) S = some S' ∧ rI p S' ∧ rF [7] S S') := by
  obtain ⟨a, b, c, d, e, g, i⟩ := hD
  have hD : rD t D (n :: st) S := ⟨a, b, c, d, e, g, i⟩
  have hn := i n (by simp)
  have hl : st.length < 6 := by simp at e; omega
  unfold mo_shut
  rw [e_top hD]
  simp only [md_bs]
  rw [if_neg (show ¬ oI (n :: st).head? = -1 from nI_m1 (by omega)), e_top hD]
  simp only [md_bs]
  have hin : md_in (oI (n :: st).head?) 41 := nI_in (show n < 41 by omega) (by omega)
  have hcl : (oI (n :: st).head?).toNatClampNeg = n := nI_clamp (by omega)
  simp only [if_pos hin, hcl, (c n hn.1).1]
  refine ⟨fun hk => ?_, fun hk => ?_⟩
  · rw [if_pos hk]
    simp only [md_lx]
    have e21 : (md_p (md_p S 6 (S.1 6 + 1)) 21 ((md_p S 6 (S.1 6 + 1)).1 21 - 1)).1 21 = nI st.length := by
      rw [md_p1, if_pos rfl, md_p1, if_neg (by decide), d]
      exact nI_pred _
    have e20 : (md_p (md_p S 6 (S.1 6 + 1)) 21 ((md_p S 6 (S.1 6 + 1)).1 21 - 1)).2 20 st.length = nI n := g.1
    simp only [e21, if_pos (nI_in (show st.length < 8 by omega) (by omega)), nI_clamp (show st.length < 2 ^ 31 by omega), e20]
    rw [e_finish (show n < 41 by omega)]
    simp only [md_cs]
    refine ⟨_, rfl, ?_⟩
    obtain ⟨S2, hS2⟩ : ∃ S', S' = md_w (md_w (md_p (md_p S 6 (S.1 6 + 1)) 21 ((md_p S 6 (S.1 6 + 1)).1 21 - 1)) 16 n ((md_p (md_p S 6 (S.1 6 + 1)) 21 ((md_p S 6 (S.1 6 + 1)).1 21 - 1)).1 6)) 14 n ((md_p (md_p S 6 (S.1 6 + 1)) 21 ((md_p S 6 (S.1 6 + 1)).1 21 - 1)).1 10 - 1) := ⟨_, rfl⟩
    rw [← hS2]
    have f : rF [6, 14, 16, 21] S S2 := by
      rw [hS2]
      exact (((rF.rf.p (by decide)).p (by decide)).w (by decide)).w (by decide)
    have g6 : S2.1 6 = nI (p + 1) := by
      rw [hS2]
      simp only [md_p1, md_w1, if_true, (show (6 : Nat) ≠ 21 by decide), if_false]
      rw [hT.2.1, nI_1]
    have g21 : S2.1 21 = nI st.length := by rw [hS2]; exact e21
    have g16 : S2.2 16 = upd (S.2 16) n (nI (p + 1)) := by
      rw [← g6, hS2]
      simp [md_w2, md_p2, md_w1]
    have g14 : S2.2 14 = upd (S.2 14) n (nI D.1 - 1) := by
      rw [← a, hS2]
      simp [md_w2, md_p2, md_p1]
    refine ⟨⟨hT.1.f f (by decide) (by decide), g6, by rw [(f 7 (by decide)).1]; exact hT.2.2⟩, ⟨by rw [(f 10 (by decide)).1]; exact a, b, fun q hq => ?_, g21, by omega, ?_, fun x hx => ?_⟩, (f 22 (by decide)).1, (f 23 (by decide)).1, f.mn (by decide)⟩
    · have hr := c q hq
      by_cases e1 : q = n
      · subst e1
        unfold setF
        rw [dU_s]
        refine ⟨by rw [(f 12 (by decide)).2]; exact hr.1, by rw [(f 13 (by decide)).2]; exact hr.2.1, by rw [(f 15 (by decide)).2]; exact hr.2.2.1, fun z => by rw [(f 17 (by decide)).2]; exact hr.2.2.2.1 z, by rw [(f 18 (by decide)).2, (f 19 (by decide)).2]; exact hr.2.2.2.2.1, fun e' a' ha => ?_⟩
        cases ha
        rw [g16, g14, upd_s, upd_s]
        exact ⟨rfl, rfl⟩
      · unfold setF
        rw [dU_n e1]
        refine hr.f fun k h1 h2 => ?_
        by_cases e2 : k = 14
        · rw [e2, g14, upd_n e1]
        · by_cases e3 : k = 16
          · rw [e3, g16, upd_n e1]
          · rw [(f k (by simp; omega)).2]
    · exact rP.f (f 20 (by decide)).2 g.2
    · have := i x (List.mem_cons_of_mem _ hx)
      refine ⟨this.1, ?_⟩
      unfold setF
      by_cases e1 : x = n
      · rw [e1, dU_s]; rw [← e1]; exact this.2
      · rw [dU_n e1]; exact this.2
  · rw [if_neg hk]
    unfold mo_shut_j21
    rw [e_fail hT.2.2]
    refine ⟨_, rfl, ?_, rF.rf.p (by decide)⟩
    unfold rI
    rw [md_p1, if_pos rfl]; exact hT.2.1
theorem e_shut0 {t : List Nat} {D : dS} {S : md_S} {p : Nat} {x : Int32} (hT : rT t p S) (hD : rD t D [] S) : ∃ S', mo_shut x S = some S' ∧ rI p S' ∧ rF [7] S S' := by
  unfold mo_shut
  rw [e_top hD]
  simp only [md_bs]
  rw [if_pos (show oI ([] : List Nat).head? = -1 from rfl)]
  unfold mo_shut_j21
  rw [e_fail hT.2.2]
  refine ⟨_, rfl, ?_, rF.rf.p (by decide)⟩
  unfold rI
  rw [md_p1, if_pos rfl]; exact hT.2.1
/-! the reference's loop, a step at a time -/
abbrev dL (N n : Nat) (s : Int32) (S : md_S) : Option md_S := mo_readDocument_l24 N n s 1 S
theorem dL_ill {N n w : Nat} {s : Int32} {S : md_S} (h : rI w S) (hw : w < 1000) : dL N (n + 1) s S = some S := by
  rw [dL, mo_readDocument_l24, if_neg (by decide), e_ill h hw]
  simp only [md_bs, if_true]
theorem dL_end {t : List Nat} (ht : tOk t) {N n p : Nat} {s : Int32} {S : md_S} (hN : 161 ≤ N) (hT : rT t p S) (hp : p ≤ t.length) (he : t.length ≤ bl t p) :
    (s = 4 → S.1 21 = 0 → ∃ S', dL N (n + 2) s S = some S' ∧ rT t (bl t p) S' ∧ rF [6] S S') ∧
    (¬ (s = 4 ∧ S.1 21 ≤ 0) → ∃ S', dL N (n + 2) s S = some S' ∧ rI (bl t p) S' ∧ rF [6, 7] S S') := by
  have h160 := ht.1
  have hb := bl_le (t := t) hp
  rw [dL, mo_readDocument_l24, if_neg (by decide), e_good hT.2.2]
  simp only [md_bs]
  rw [if_neg (by decide)]
  obtain ⟨S1, a, b, c⟩ := e_blanks ht hT hp hN
  rw [a]
  simp only [md_cs]
  rw [e_atp b ht (by omega)]
  simp only [md_bs, aT_m1 ht, if_pos he]
  refine ⟨fun h4 h21 => ?_, fun h4 => ?_⟩
  · have : S1.1 21 ≤ 0 := by rw [(c 21 (by decide)).1, h21]; decide
    rw [if_pos h4, if_pos this, mo_readDocument_l24, if_pos rfl]
    exact ⟨S1, rfl, b, c⟩
  · have hj : (if s = 4 then if S1.1 21 ≤ 0 then mo_readDocument_l24 N (n + 1) s 0 S1 else md_c (mo_fail (S1.1 6) S1) fun S70 => mo_readDocument_l24 N (n + 1) s 0 S70 else md_c (mo_fail (S1.1 6) S1) fun S70 => mo_readDocument_l24 N (n + 1) s 0 S70) = md_c (mo_fail (S1.1 6) S1) fun S70 => mo_readDocument_l24 N (n + 1) s 0 S70 := by
      by_cases e : s = 4
      · rw [if_pos e, if_neg (fun z => h4 ⟨e, by rw [← (c 21 (by decide)).1]; exact z⟩)]
      · rw [if_neg e]
    rw [hj, e_fail b.2.2]
    simp only [md_cs]
    rw [mo_readDocument_l24, if_pos rfl]
    refine ⟨_, rfl, ?_, (c.mn (K := [6, 7]) (by decide)).p (by decide)⟩
    unfold rI
    rw [md_p1, if_pos rfl]; exact b.2.1
theorem dL_st {t : List Nat} (ht : tOk t) {N p : Nat} {s : Int32} {S : md_S} (hN : 161 ≤ N) (hT : rT t p S) (hp : p ≤ t.length) (he : bl t p < t.length) : ∃ S1, rT t (bl t p) S1 ∧ rF [6] S S1 ∧ ∀ n, dL N (n + 1) s S = md_b (mo_readStep N s S1) fun v S2 => dL N n v S2 := by
  have h160 := ht.1
  obtain ⟨S1, a, b, c⟩ := e_blanks ht hT hp hN
  refine ⟨S1, b, c, fun n => ?_⟩
  rw [dL, mo_readDocument_l24, if_neg (by decide), e_good hT.2.2]
  simp only [md_bs]
  rw [if_neg (by decide), a]
  simp only [md_cs]
  rw [e_atp b ht (by omega)]
  simp only [md_bs, aT_m1 ht, if_neg (show ¬ t.length ≤ bl t p by omega)]
