def sB (bo : Nat) : Nat := 170 * (cB bo + 1) + 1
theorem e_nodr {t : List Nat} {D : dS} {tq : List Nat} {Q : cQ} {g f m s i r bo : Nat} {vs : stk} {row : List Nat} (hf : f < 7) (hW : dW t D) (HP : HPs t tq D Q g (f + 1) m bo) (hqb : (qk Q).1 ≤ 170 ∧ (qc Q).1 ≤ 50) (hcl : ∀ c, c < (qc Q).1 → ((qc Q).2 c).length ≤ 170) (hgl : ∀ s, s < (qg Q).1 → ((qg Q).2.2 s).length ≤ 170) (hm : vs.length + 15 ≤ m) (hm2 : m ≤ 100) (hs : s < (qg Q).1) (hok : ∀ k, k ∈ (qg Q).2.2 s → okK tq Q (okP tq Q g) ((qk Q).2 k)) (hi : i < 300) (hr : r < D.1) : ∀ (q n : Nat) (nx : List Nat), (q ≠ 0 → ((qg Q).2.1 s).1 = true ∧ n + 1 + q = nAf D r) → n + q < D.1 →
    RN (q * (sB bo + 1)) t D tq Q (fun S => PN t tq D f vs s row i r n nx S ∧ S.2 62 f = 1) (nodsR D (((qg Q).2.2 s).map fun k => selE tq (evP tq Q g) Q ((qk Q).2 k)) q (n + 1) nx) (fun nx' S S' => (PN t tq D f vs s row i r (n + q) nx' S' ∧ S'.2 62 f = 1) ∧ lx J1 f S S') := by
  intro q
  induction q with
  | zero =>
    intro n nx _ _
    exact RN.nil fun S h => ⟨h, lx.rf⟩
  | succ q ih =>
    intro n nx hq hd
    obtain ⟨hbw, hna⟩ := hq (by omega)
    refine RN.mn (bo := 1 + (sB bo + q * (sB bo + 1))) ?_ (by rw [Nat.succ_mul]; omega)
    show RN _ t D tq Q _ (eB (some ((), 1)) fun _ => eB (selsR D (n + 1) (((qg Q).2.2 s).map fun k => selE tq (evP tq Q g) Q ((qk Q).2 k)) nx) fun row' => nodsR D (((qg Q).2.2 s).map fun k => selE tq (evP tq Q g) Q ((qk Q).2 k)) q (n + 1 + 1) row') _
    have pA : RN 1 t D tq Q (fun S => PN t tq D f vs s row i r n nx S ∧ S.2 62 f = 1) (some ((), 1)) (fun _ S S' => (PN t tq D f vs s row i r (n + 1) nx S' ∧ S'.2 62 f = 2 ∧ S'.2 68 f = oI ((qg Q).2.2 s).head?) ∧ lx J1 f S S') := RN.w (e_down hf hW hs hbw hr (by omega)) (fun S h => ⟨h.1, h.2, hi⟩) (fun _ _ _ _ _ _ h => h)
    refine RN.sq pA fun _ _ _ _ => ?_
    have pB : RN (sB bo) t D tq Q (fun S => PN t tq D f vs s row i r (n + 1) nx S ∧ S.2 62 f = 2 ∧ S.2 68 f = oI ((qg Q).2.2 s).head?) (selsR D (n + 1) (((qg Q).2.2 s).map fun k => selE tq (evP tq Q g) Q ((qk Q).2 k)) nx) (fun nx' S S' => (PN t tq D f vs s row i r (n + 1) nx' S' ∧ S'.2 62 f = 1) ∧ lx J1 f S S') := by
      refine RN.w (RN.mn (e_sels hf hW HP hqb (n := n + 1) (by omega) hm hm2 hs hcl ((qg Q).2.2 s) [] nx rfl hok) (by
        unfold sB
        have := Nat.mul_le_mul_right (cB bo + 1) (hgl s hs)
        omega)) (fun S h => ⟨h.1.1, h.2.1, h.1.2.2.2.2.1, h.2.2, h.1.2.2.2.2.2.2.1, h.1.2.2.2.2.2.2.2⟩) (fun nx' k S S' _ h hr => ⟨⟨h.1.k hr.1 hr.2, hr.1.2.1⟩, hr.2.mn (fun x z => by unfold J2 at z; unfold J1; simp at z ⊢; omega)⟩)
    refine RN.sq pB fun nx' _ _ _ => ?_
    have := ih (n + 1) nx' (fun _ => ⟨hbw, by omega⟩) (by omega)
    rw [show n + 1 + q = n + (q + 1) by omega] at this
    exact this
theorem e_seg {t : List Nat} {D : dS} {tq : List Nat} {Q : cQ} {g f m s bo : Nat} {vs : stk} {row : List Nat} (hf : f < 7) (hW : dW t D) (HP : HPs t tq D Q g (f + 1) m bo) (hqb : (qk Q).1 ≤ 170 ∧ (qc Q).1 ≤ 50) (hcl : ∀ c, c < (qc Q).1 → ((qc Q).2 c).length ≤ 170) (hgl : ∀ s, s < (qg Q).1 → ((qg Q).2.2 s).length ≤ 170) (hm : vs.length + 15 ≤ m) (hm2 : m ≤ 100) (hs : s < (qg Q).1) (hok : ∀ k, k ∈ (qg Q).2.2 s → okK tq Q (okP tq Q g) ((qk Q).2 k)) (hl : row.length ≤ 300) (hrow : lt40 D row) : ∀ (rest done nx : List Nat), row = done ++ rest →
    RN (rest.length * (41 * (sB bo + 1))) t D tq Q (PS t tq D Q f vs s row done.length nx) (segR D (segE tq (evP tq Q g) Q s) rest nx) (fun nx' S S' => PS t tq D Q f vs s row row.length nx' S' ∧ lx J1 f S S') := by
  obtain ⟨gg, hI⟩ := hW.1
  have h40 := hI.1.1
  intro rest
  induction rest with
  | nil =>
    intro done nx he
    rw [List.append_nil] at he
    subst he
    exact RN.nil fun S h => ⟨h, lx.rf⟩
  | cons r rest ih =>
    intro done nx he
    have hr : r < D.1 := hrow r (by rw [he]; simp)
    have hdl : done.length < 300 := by rw [he] at hl; simp at hl; omega
    obtain ⟨e, a, hfi⟩ : ∃ e a, nfi (D.2 r) = some (e, a) := by
      cases hz : nfi (D.2 r) with
      | none => exact absurd hz (hW.2.2 r hr).1
      | some q => exact ⟨q.1, q.2, rfl⟩
    have hna : nAf D r = a := by unfold nAf; rw [hfi]; rfl
    have hai := hI.2.2.2.2.2.1 r e a hr hfi
    obtain ⟨q, hq⟩ : ∃ q, (if ((qg Q).2.1 s).1 = true then nAf D r - r else 1) = q + 1 := by
      by_cases hb : ((qg Q).2.1 s).1 = true
      · rw [if_pos hb]; exact ⟨nAf D r - r - 1, by omega⟩
      · rw [if_neg hb]; exact ⟨0, rfl⟩
    have hE : segR D (segE tq (evP tq Q g) Q s) (r :: rest) nx = eB (some ((), 1)) fun _ => eB (selsR D r (((qg Q).2.2 s).map fun k => selE tq (evP tq Q g) Q ((qk Q).2 k)) nx) fun row' => eB (nodsR D (((qg Q).2.2 s).map fun k => selE tq (evP tq Q g) Q ((qk Q).2 k)) q (r + 1) row') fun row2 => segR D (segE tq (evP tq Q g) Q s) rest row2 := by
      rw [segR, show (segE tq (evP tq Q g) Q s).1 = ((qg Q).2.1 s).1 from rfl, hq, nodsR, eB_a]
      congr 1
      funext _
      rw [eB_a]
      rfl
    rw [hE]
    subst he
    have hq40 : q ≤ 40 := by
      by_cases hb : ((qg Q).2.1 s).1 = true
      · rw [if_pos hb] at hq; omega
      · rw [if_neg hb] at hq; omega
    refine RN.mn (bo := 1 + (sB bo + (q * (sB bo + 1) + rest.length * (41 * (sB bo + 1))))) (RN.sq (e_nextN hf hW hs hr) fun _ _ _ _ => ?_) (by
      have hx := Nat.mul_le_mul_right (sB bo + 1) hq40
      rw [List.length_cons, Nat.succ_mul rest.length]
      generalize rest.length * (41 * (sB bo + 1)) = y
      generalize q * (sB bo + 1) = z at hx ⊢
      omega)
    have pB : RN (sB bo) t D tq Q (fun S => PN t tq D f vs s (done ++ r :: rest) done.length r r nx S ∧ S.2 62 f = 2 ∧ S.2 68 f = oI ((qg Q).2.2 s).head?) (selsR D r (((qg Q).2.2 s).map fun k => selE tq (evP tq Q g) Q ((qk Q).2 k)) nx) (fun nx' S S' => (PN t tq D f vs s (done ++ r :: rest) done.length r r nx' S' ∧ S'.2 62 f = 1) ∧ lx J1 f S S') := by
      refine RN.w (RN.mn (e_sels hf hW HP hqb (n := r) hr hm hm2 hs hcl ((qg Q).2.2 s) [] nx rfl hok) (by
        unfold sB
        have := Nat.mul_le_mul_right (cB bo + 1) (hgl s hs)
        omega)) (fun S h => ⟨h.1.1, h.2.1, h.1.2.2.2.2.1, h.2.2, h.1.2.2.2.2.2.2.1, h.1.2.2.2.2.2.2.2⟩) (fun nx' k S S' _ h hr => ⟨⟨h.1.k hr.1 hr.2, hr.1.2.1⟩, hr.2.mn (fun x z => by unfold J2 at z; unfold J1; simp at z ⊢; omega)⟩)
    refine RN.sq pB fun nx' _ _ _ => ?_
    have hqq : (q ≠ 0 → ((qg Q).2.1 s).1 = true ∧ r + 1 + q = nAf D r) ∧ r + q < D.1 ∧ (((qg Q).2.1 s).1 = true → r + 1 + q = nAf D r) := by
      by_cases hb : ((qg Q).2.1 s).1 = true
      · rw [if_pos hb] at hq
        exact ⟨fun _ => ⟨hb, by omega⟩, by omega, fun _ => by omega⟩
      · rw [if_neg hb] at hq
        exact ⟨fun z => absurd (by omega) z, by omega, fun z => absurd z hb⟩
    have pC : RN (q * (sB bo + 1)) t D tq Q (fun S => PN t tq D f vs s (done ++ r :: rest) done.length r r nx' S ∧ S.2 62 f = 1) (nodsR D (((qg Q).2.2 s).map fun k => selE tq (evP tq Q g) Q ((qk Q).2 k)) q (r + 1) nx') (fun nx2 S S' => PS t tq D Q f vs s (done ++ r :: rest) (done ++ [r]).length nx2 S' ∧ lx J1 f S S') := by
      refine RN.w (e_nodr hf hW HP hqb hcl hgl hm hm2 hs hok hdl hr q r nx' hqq.1 hqq.2.1) (fun S h => h) (fun nx2 k S S' _ h hh => ⟨?_, hh.2⟩)
      obtain ⟨⟨a1, a2, a3, a4, a5, a6, a7, a8⟩, h62⟩ := hh.1
      refine ⟨a1, h62, a2, ?_, a6, a7, a8, Or.inr ?_⟩
      · rw [a3, List.length_append]
        exact (nI_pred _).symm
      · by_cases hb : ((qg Q).2.1 s).1 = true
        · exact Or.inr ⟨r, r + q, hr, a4, a5, by have := hqq.2.2 hb; omega, by omega⟩
        · exact Or.inl (by simpa using hb)
    refine RN.sq pC fun nx2 _ _ _ => ?_
    exact ih (done ++ [r]) nx2 (by simp)
/-- the row that was made becomes the row -/
theorem e_l83 {t : List Nat} {D : dS} {tq : List Nat} {Q : cQ} {f s a N : Nat} {nx pre rest : List Nat} (hf : f < 7) (ha : a < (qp Q).1) (hl : (qp Q).2.2 a = pre ++ s :: rest) : ∀ (d i fu : Nat) (S : md_S), rSt t D tq Q S → i + d = nx.length → d + 1 ≤ fu → rNxt f nx S → S.2 64 f = nI s → (∀ j, j < i → S.2 74 (300 * f + j) = nI (lk nx j)) →
    ∃ S', mo_stepNode_l83 N fu (nI f) (nI i) S = some S' ∧ rRow f nx S' ∧ S'.2 64 f = oI rest.head? ∧ S'.2 62 f = 0 ∧ rF [62, 64, 72, 74] S S' ∧ lx [62, 64, 72, 74] f S S' := by
  intro d
  induction d with
  | zero =>
    intro i fu S hS hi hfu hn h64 hc
    obtain ⟨fu, rfl⟩ : ∃ k, fu = k + 1 := ⟨fu - 1, by omega⟩
    obtain ⟨n1, n2⟩ := rLs_n hS.2.1.2.2.2.2.2.2.1 ha hl
    have hq := hS.2.1.2.1.2.1
    have hl3 := hn.2.1
    rw [mo_stepNode_l83]
    simp only [if_pos (nI_in (show f < 8 by omega) (by omega)), nI_clamp (show f < 2 ^ 31 by omega), hn.1, md_lx, md_w_k (show (64 : Nat) ≠ 72 by decide), h64, if_pos (nI_in (show s < 170 by omega) (by omega)), nI_clamp (show s < 2 ^ 31 by omega), md_w_k (show (37 : Nat) ≠ 72 by decide), n1]
    rw [if_pos (show nI nx.length ≤ nI i by rw [show i = nx.length by omega]; exact Int32.le_refl _)]
    refine ⟨_, rfl, ⟨?_, hn.2.1, fun j hj => ?_⟩, ?_, md_w_s, ((rF.rf.w (by decide)).w (by decide)).w (by decide), ((lx.rf.w (by decide) (by decide) (by decide)).w (by decide) (by decide) (by decide)).w (by decide) (by decide) (by decide)⟩
    · rw [md_w_k (by decide), md_w_k (by decide), md_w_s]
    · rw [md_w_k (by decide), md_w_k (by decide), md_w_k (by decide)]
      exact hc j (by omega)
    · rw [md_w_k (by decide), md_w_s]
  | succ d ih =>
    intro i fu S hS hi hfu hn h64 hc
    obtain ⟨fu, rfl⟩ : ∃ k, fu = k + 1 := ⟨fu - 1, by omega⟩
    have hl3 := hn.2.1
    have ea : (300 : Int32) * nI f + nI i = nI (300 * f + i) := by
      rw [show (300 : Int32) = nI 300 from rfl, pk_mul, nI_add]
    have e75 := hn.2.2 i (by omega)
    rw [mo_stepNode_l83]
    simp only [if_pos (nI_in (show f < 8 by omega) (by omega)), nI_clamp (show f < 2 ^ 31 by omega), hn.1, md_lx, ea, if_pos (nI_in (show 300 * f + i < 2400 by omega) (by omega)), nI_clamp (show 300 * f + i < 2 ^ 31 by omega), e75]
    rw [if_neg (fun z => by rw [Int32.le_iff_toInt_le, nI_toInt (by omega), nI_toInt (by omega)] at z; omega), nI_1]
    have f1 : rF [74] S (md_w S 74 (300 * f + i) (nI (lk nx i))) := rF.rf.w (by decide)
    obtain ⟨S', b1, b2, b3, b4, b5, b6⟩ := ih (i + 1) fu (md_w S 74 (300 * f + i) (nI (lk nx i))) (hS.f f1 (fun q z => by simp at z; omega)) (by omega) (by omega) (hn.f f1 (by decide) (by decide)) (by rw [md_w_k (by decide)]; exact h64) (fun j hj => by
      by_cases e : j = i
      · rw [e, md_w_s]
      · rw [md_wn (by omega)]; exact hc j (by omega))
    exact ⟨S', b1, b2, b3, b4, f1.tr b5 (fun q z => by simp at z ⊢; omega) (fun _ z => z), (lx.rf.w7 (J := [62, 64, 72, 74]) (by decide) (Or.inl rfl) (by omega)).tr b6 (fun _ z => z) (fun _ z => z)⟩
def gB (bo : Nat) : Nat := 300 * (41 * (sB bo + 1)) + 2
def J0 : List Nat := [62, 64, 65, 66, 67, 68, 69, 70, 71, 72, 73, 74, 75]
def P0 (t tq : List Nat) (D : dS) (f : Nat) (vs : stk) (sgs row : List Nat) (S : md_S) : Prop := tp t tq D f vs S ∧ S.2 62 f = 0 ∧ S.2 64 f = oI sgs.head? ∧ rRow f row S ∧ lt40 D row
theorem e_path0 {t : List Nat} {D : dS} {tq : List Nat} {Q : cQ} {g f m a bo : Nat} {vs : stk} (hf : f < 7) (hW : dW t D) (HP : HPs t tq D Q g (f + 1) m bo) (hqb : (qg Q).1 ≤ 170 ∧ (qk Q).1 ≤ 170 ∧ (qc Q).1 ≤ 50) (hcl : ∀ c, c < (qc Q).1 → ((qc Q).2 c).length ≤ 170) (hgl : ∀ s, s < (qg Q).1 → ((qg Q).2.2 s).length ≤ 170) (hm : vs.length + 15 ≤ m) (hm2 : m ≤ 100) (ha : a < (qp Q).1) (hsg : ∀ s, s ∈ (qp Q).2.2 a → s < (qg Q).1 ∧ ∀ k, k ∈ (qg Q).2.2 s → okK tq Q (okP tq Q g) ((qk Q).2 k)) : ∀ (sgs pre row : List Nat), (qp Q).2.2 a = pre ++ sgs →
    RN (sgs.length * gB bo) t D tq Q (P0 t tq D f vs sgs row) (pathR D (sgs.map fun s => segE tq (evP tq Q g) Q s) row) (fun row' S S' => P0 t tq D f vs [] row' S' ∧ lx J0 f S S') := by
  intro sgs
  induction sgs with
  | nil =>
    intro pre row hl
    exact RN.nil fun S h => ⟨h, lx.rf⟩
  | cons s rest ih =>
    intro pre row hl
    obtain ⟨hs, hok⟩ := hsg s (by rw [hl]; simp)
    by_cases hrow : row.length ≤ 300 ∧ lt40 D row
    · have hE : pathR D ((s :: rest).map fun s => segE tq (evP tq Q g) Q s) row = eB (some ((), 0)) fun _ => eB (segR D (segE tq (evP tq Q g) Q s) row []) fun nx => eB (some (nx, 0)) fun row' => pathR D (rest.map fun s => segE tq (evP tq Q g) Q s) row' := by
        rw [eB_s]
        show eB _ _ = _
        congr 1
        funext nx
        rw [eB_s]
      rw [hE]
      have pA : RN 1 t D tq Q (P0 t tq D f vs (s :: rest) row) (some ((), 0)) (fun _ S S' => PS t tq D Q f vs s row ([] : List Nat).length [] S' ∧ lx J0 f S S') := by
        refine RN.on0 (fun S h => h.1.n0 (by omega)) fun N hN S hS h60 h => ?_
        obtain ⟨h1, h2, h3, h4, h5⟩ := h
        have h3' : S.2 64 f = nI s := h3
        have e1 : mo_step N S = some (md_w (md_w (md_w S 73 f 0) 65 f (-1)) 62 f 1) := by
          unfold mo_step
          simp only [h1.1, nI_pred, if_pos (nI_in (show f < 8 by omega) (by omega)), nI_clamp (show f < 2 ^ 31 by omega), h2, h3', if_neg (show ¬ nI s = -1 from nI_m1 (by omega)), md_lx, if_true]
        have f1 : rF [62, 65, 73] S (md_w (md_w (md_w S 73 f 0) 65 f (-1)) 62 f 1) := ((rF.rf.w (by decide)).w (by decide)).w (by decide)
        refine ⟨_, e1, f1.mn (fun q z => by simp at z; exact KM_in (by omega) (by omega)), rfl, rfl, ⟨h1.f f1 (fun q z => by simp at z; omega), md_w_s, by rw [(f1 64 (by decide)).2]; exact h3', ?_, h4.f f1 (by decide) (by decide), ⟨?_, by simp, fun j hj => absurd hj (by simp)⟩, fun x z => (nomatch z), Or.inl rfl⟩, ((lx.rf.w (by decide) (by decide) (by decide)).w (by decide) (by decide) (by decide)).w (by decide) (by decide) (by decide)⟩
        · rw [md_w_k (by decide), md_w_s]; rfl
        · rw [md_w_k (by decide), md_w_k (by decide), md_w_s]; rfl
      refine RN.mn (bo := 1 + (300 * (41 * (sB bo + 1)) + (1 + rest.length * gB bo))) (RN.sq pA fun _ _ _ _ => ?_) (by
        rw [List.length_cons, Nat.succ_mul rest.length]
        have hg : gB bo = 300 * (41 * (sB bo + 1)) + 2 := rfl
        generalize rest.length * gB bo = y
        omega)
      have pB : RN (300 * (41 * (sB bo + 1))) t D tq Q (PS t tq D Q f vs s row ([] : List Nat).length []) (segR D (segE tq (evP tq Q g) Q s) row []) (fun nx S S' => PS t tq D Q f vs s row row.length nx S' ∧ lx J0 f S S') := RN.w (RN.mn (e_seg hf hW HP hqb.2 hcl hgl hm hm2 hs hok hrow.1 hrow.2 row [] [] rfl) (Nat.mul_le_mul_right _ hrow.1)) (fun S h => h) (fun nx k S S' _ _ h => ⟨h.1, h.2.mn (fun x z => by unfold J1 at z; unfold J0; simp at z ⊢; omega)⟩)
      refine RN.sq pB fun nx _ _ _ => ?_
      have pC : RN 1 t D tq Q (PS t tq D Q f vs s row row.length nx) (some (nx, 0)) (fun row' S S' => P0 t tq D f vs rest row' S' ∧ lx J0 f S S') := by
        refine RN.on0 (fun S h => h.1.n0 (by omega)) fun N hN S hS h60 h => ?_
        have st0 := e_j56 (N := N) hf hW hs hS hrow.1 h
        obtain ⟨a1, h62, a2, a3, a6, a7, a8, hd⟩ := h
        have e65 : S.2 65 f + 1 = nI row.length := by rw [a3, Int32.sub_add_cancel]
        obtain ⟨S1, hS1⟩ : ∃ S1, S1 = md_w S 65 f (nI row.length) := ⟨_, rfl⟩
        have f1 : rF [65] S S1 := by rw [hS1]; exact rF.rf.w (by decide)
        have l1 : lx J0 f S S1 := by rw [hS1]; exact lx.rf.w (by decide) (by decide) (by decide)
        obtain ⟨S', b1, b2, b3, b4, b5, b6⟩ := e_l83 (N := N) (t := t) (D := D) (tq := tq) hf ha hl nx.length 0 N S1 (hS.f f1 (fun q z => by simp at z; omega)) (by omega) (by have := a7.2.1; omega) (a7.f f1 (by decide) (by decide)) (by rw [(f1 64 (by decide)).2]; exact a2) (fun j hj => absurd hj (by omega))
        have hst : mo_step N S = some S' := by
          rw [st0, ← b1, hS1]
          unfold mo_stepNode_j56
          simp only [if_pos (nI_in (show f < 8 by omega) (by omega)), nI_clamp (show f < 2 ^ 31 by omega), e65, md_lx, md_w_s, md_w_k (show (72 : Nat) ≠ 65 by decide), a6.1, if_true]
          rfl
        have f2 : rF [62, 64, 65, 72, 74] S S' := f1.tr b5 (fun q z => by simp at z ⊢; omega) (fun q z => by simp at z ⊢; omega)
        exact ⟨S', hst, f2.mn (fun q z => by simp at z; exact KM_in (by omega) (by omega)), (f2 60 (by decide)).1, (f2 61 (by decide)).1, ⟨a1.f f2 (fun q z => by simp at z; omega), b4, b3, b2, a8⟩, l1.tr b6 (fun _ z => z) (fun x z => by unfold J0; simp at z ⊢; omega)⟩
      exact RN.sq pC fun row' _ _ _ => ih (pre ++ [s]) row' (by rw [hl]; simp)
    · refine ⟨0, Nat.zero_le _, fun N hN S G hS h60 h61 hG h => absurd ⟨h.2.2.2.1.2.1, h.2.2.2.2⟩ hrow⟩
def paB : Nat → Nat
  | 0 => 0
  | g + 1 => 170 * gB (paB g)
/-- a path, from the frame that was entered -/
theorem e_paths {t : List Nat} {D : dS} {tq : List Nat} {Q : cQ} (hW : dW t D) (hqb : (qg Q).1 ≤ 170 ∧ (qk Q).1 ≤ 170 ∧ (qc Q).1 ≤ 50) (hcl : ∀ c, c < (qc Q).1 → ((qc Q).2 c).length ≤ 170) (hgl : ∀ s, s < (qg Q).1 → ((qg Q).2.2 s).length ≤ 170) (hpl : ∀ a, a < (qp Q).1 → ((qp Q).2.2 a).length ≤ 170) (hsl : ∀ a s, a < (qp Q).1 → s ∈ (qp Q).2.2 a → s < (qg Q).1) : ∀ (g f m : Nat), f + g ≤ 6 → m + 15 * g ≤ 100 → HPs t tq D Q g f m (paB g) := by
  intro g
  induction g with
  | zero => intro f m _ _ a ha; exact ha.elim
  | succ g ih =>
    intro f m hfg hm a ha u n vs hn hvs
    obtain ⟨ha1, ha2⟩ := ha
    have key := e_path0 (vs := vs) (a := a) (show f < 7 by omega) hW (ih (f + 1) (m + 15) (by omega) (by omega)) hqb hcl hgl (by omega) (by omega) ha1 (fun s hs => ⟨hsl a s ha1 hs, ha2 s hs⟩) ((qp Q).2.2 a) [] [if ((qp Q).2.1 a).2 = true then 0 else n] rfl
    refine RN.w (RN.mn key (show _ ≤ paB (g + 1) from Nat.mul_le_mul_right _ (hpl a ha1))) (fun S h => ⟨h.1, h.2.1, h.2.2.2.1, h.2.2.2.2, fun x hx => ?_⟩) (fun row k S S' _ h hr => ?_)
    · rw [List.mem_singleton.mp hx]
      split
      · exact hW.2.1
      · exact hn
    · obtain ⟨⟨r1, r2, r3, r4, r5⟩, r6⟩ := hr
      exact ⟨r1, r2, r3, r6.2.1 63 (by omega) (by omega) (by decide), r4, r6.1, r5⟩
