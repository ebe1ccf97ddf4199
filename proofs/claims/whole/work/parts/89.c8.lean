/-! values, and what lies between brackets -/
def PX (G : mv_G) (h : mv_H) (r c A s : Nat) (t : List Nat) (D : dS) (a b : Nat) (x : (dS × Nat) ⊕ Nat) (o : mv_O) (h1 : mv_H) : Prop := match x with
  | .inl (D', p') => o = .inl none ∧ RS G h1 r c A s t p' D' ∧ rst G h h1 A c (4 * (D'.1 - D.1) - a)
  | .inr w => ∃ E, o = .inr (xIA, E) ∧ IL G h h1 r c A s w (4 * (40 - D.1) + b)
theorem PX.pre {G : mv_G} {h h1 h2 : mv_H} {r c A s k a b a' b' : Nat} {t : List Nat} {D D1 : dS} {x : (dS × Nat) ⊕ Nat} {o : mv_O} (R : rst G h h1 A c k) (P : PX G h1 r c A s t D1 a b x o h2) (hx : ∀ D' p', x = .inl (D', p') → k + (4 * (D'.1 - D1.1) - a) ≤ 4 * (D'.1 - D.1) - a') (hy : k + (4 * (40 - D1.1) + b) ≤ 4 * (40 - D.1) + b') : PX G h r c A s t D a' b' x o h2 := by
  cases x with
  | inl q => exact ⟨P.1, P.2.1, R.tr P.2.2 (hx q.1 q.2 rfl)⟩
  | inr w =>
    obtain ⟨E, e1, e2⟩ := P
    exact ⟨E, e1, IL.pre R e2 hy⟩
def VC (l : Launch) (G : mv_G) (r c A s : Nat) (t : List Nat) (lv : Nat) : Prop := ∀ (d : Nat) (g : Nat → Nat) (D : dS) (p : Nat) (ou : Option Nat) (nm : List Nat) (b : Nat) (h : mv_H), 2 * lv + 13 ≤ d → RS G h r c A s t p D → dI t g D → ouOk t g D lv ou nm → mv_str G h b nm → mv_rq l G mX2_readValue d 0 (mv_in [.ref r, .int (oI ou), .ref b, .int (nI (6 - lv))] 6) [] h (PX G h r c A s t D 2 1 (pV t lv D p ou nm))
section RV
variable {l : Launch} {G : mv_G} {d A r c s lv n : Nat} {t : List Nat}
/-- the closing bracket -/
theorem sp_clA {p : Nat} {D : dS} {h : mv_H} (hG : mv_ok G) (hX : mv_okX l G) (H : RS G h r c A s t p D) (hd : 8 ≤ d) : mv_rq l G mX2_readArray (d + 1) 51 [some (.ref r), none, none, none] [] h (PX G h r c A s t D 0 5 (if lk t p = 93 then .inl (D, p + 1) else .inr p)) := by
  have hcb := H.2.2.2.2.2.1.2.2.2
  refine v_X2_readArray_51 hG ?_
  unfold w_X2_readArray_51
  refine vgb_of H.1 rfl (vob_of H.2.1 ?_)
  refine (sp_expect hG hX (ch := 93) H.2.1 H.2.2.2.1 H.2.2.2.2.2.2.1 (by decide) (by decide) hcb hd).mono fun o h1 hq => ?_
  rcases hq with ⟨x1, x2, x3⟩ | ⟨x1, x2, x3⟩
  · rw [if_pos x1]
    obtain ⟨H4, R4⟩ := H.cur (p' := p + 1) (lk_lt x1 (by decide))
    rw [x3] at H4 R4
    exact Or.inl ⟨x2, rfl, H4, R4.mn (by omega)⟩
  · rw [if_neg x1]
    refine Or.inr ⟨_, x2, _, rfl, ?_⟩
    rw [← x3]
    obtain ⟨i1, i2, i3, i4⟩ : IL G h (thr (mv_set h c (curE s p (nI p)))) r c A s p 1 := H.ill
    exact ⟨i1, i2, i3, i4.mn (by omega)⟩
theorem sp_lpA (hG : mv_ok G) (hX : mv_okX l G) (ht : tOk t) (hlv : lv ≤ 5) (hV : VC l G r c A s t lv) (hd : 2 * lv + 13 ≤ d) : ∀ (k : Nat) (g : Nat → Nat) (D : dS) (p : Nat) (h : mv_H), k < 40 → RS G h r c A s t p D → dI t g D → n < D.1 → nkd (D.2 n) = 5 → nfi (D.2 n) = none → g n + 1 + lv = 6 →
    mv_rq l G mX2_readArray (d + 1) 22 [some (.ref r), some (.int (nI n)), some (.int (nI (6 - lv))), some (.int (nI (39 - k)))] [] h (PX G h r c A s t D 0 5 (pE t (fun D p nm => pV t lv D p (some n) nm) false n (k + 1) D p)) := by
  intro k
  induction k with
  | zero =>
    intro g D p h hk H hI hn hkd hfi hg
    refine v_X2_readArray_22 hG ?_
    unfold w_X2_readArray_22
    obtain ⟨z, z1, z2⟩ := H.2.2.2.2.1.2.2.2
    refine vst_of z1 (vob_of H.1 ?_)
    have hB : isB (nkd (D.2 n)) := by rw [hkd]; exact Or.inl rfl
    have hou : ouOk t g D lv (some n) [] := ⟨fun o ho => by cases ho; exact ⟨hn, hB, hfi, hg, fun z => absurd (hkd.symm.trans z) (by decide)⟩, fun z => (nomatch z), Or.inl rfl⟩
    have hE : pE t (fun D p nm => pV t lv D p (some n) nm) false n (0 + 1) D p = (match pV t lv D p (some n) [] with
      | .inr w => .inr w
      | .inl (D', p') => if 0 ≠ 0 ∧ lk t p' = 44 then pE t (fun D p nm => pV t lv D p (some n) nm) false n (0) D' (p' + 1) else if lk t p' = 93 then .inl (D', p' + 1) else .inr p') := by
      rw [pE]; rfl
    rw [hE]
    refine (hV d g D p (some n) [] z h (by omega) H hI hou z2).mono fun o h1 hq => ?_
    cases hpv : pV t lv D p (some n) [] with
    | inl q =>
      obtain ⟨D', p'⟩ := q
      rw [hpv] at hq
      simp only
      obtain ⟨Q1, Q2, Q3⟩ := hq
      obtain ⟨g1, a1, a2, a3, a4, a5, a6, a7, a8⟩ := VIl ht lv (by omega) g D p (some n) [] D' p' hI hou H.2.2.2.2.2.2.1 hpv
      have h40 := Q2.2.2.2.2.2.2.2
      have Q3' : rst G h h1 A c (4 * (D'.1 - D.1)) := Q3.mn (by omega)
      refine Or.inl ⟨Q1, vif_y (by decide) ?_⟩
      rw [if_neg (fun z => z.1 rfl)]
      refine (sp_clA hG hX Q2 (by omega)).mono fun o h2 hq2 => PX.pre Q3' hq2 (fun D' p' z => ?_) (by omega)
      split at z
      · cases z; omega
      · cases z
    | inr w =>
      rw [hpv] at hq
      obtain ⟨E, e1, i1, i2, i3, i4⟩ := hq
      exact Or.inr ⟨_, e1, _, rfl, i1, i2, i3, i4.mn (by omega)⟩
  | succ k ih =>
    intro g D p h hk H hI hn hkd hfi hg
    refine v_X2_readArray_22 hG ?_
    unfold w_X2_readArray_22
    obtain ⟨z, z1, z2⟩ := H.2.2.2.2.1.2.2.2
    refine vst_of z1 (vob_of H.1 ?_)
    have hB : isB (nkd (D.2 n)) := by rw [hkd]; exact Or.inl rfl
    have hou : ouOk t g D lv (some n) [] := ⟨fun o ho => by cases ho; exact ⟨hn, hB, hfi, hg, fun z => absurd (hkd.symm.trans z) (by decide)⟩, fun z => (nomatch z), Or.inl rfl⟩
    have hE : pE t (fun D p nm => pV t lv D p (some n) nm) false n (k + 1 + 1) D p = (match pV t lv D p (some n) [] with
      | .inr w => .inr w
      | .inl (D', p') => if k + 1 ≠ 0 ∧ lk t p' = 44 then pE t (fun D p nm => pV t lv D p (some n) nm) false n (k + 1) D' (p' + 1) else if lk t p' = 93 then .inl (D', p' + 1) else .inr p') := by
      rw [pE]; rfl
    rw [hE]
    refine (hV d g D p (some n) [] z h (by omega) H hI hou z2).mono fun o h1 hq => ?_
    cases hpv : pV t lv D p (some n) [] with
    | inl q =>
      obtain ⟨D', p'⟩ := q
      rw [hpv] at hq
      simp only
      obtain ⟨Q1, Q2, Q3⟩ := hq
      obtain ⟨g1, a1, a2, a3, a4, a5, a6, a7, a8⟩ := VIl ht lv (by omega) g D p (some n) [] D' p' hI hou H.2.2.2.2.2.2.1 hpv
      have h40 := Q2.2.2.2.2.2.2.2
      have Q3' : rst G h h1 A c (4 * (D'.1 - D.1)) := Q3.mn (by omega)
      have hcb := H.2.2.2.2.2.1.2.2.2
      have e40 : nI (39 - (k + 1)) + 1 = nI (39 - k) := by rw [nI_1]; congr 1; omega
      refine Or.inl ⟨Q1, vif_n ?_ (vgb_of Q2.1 rfl (vob_of Q2.2.1 ?_))⟩
      · rw [e40, show (40 : Int32) = nI 40 from rfl]
        exact nI_ge (by omega) (by omega)
      · refine (sp_passes hG (ch := 44) Q2.2.1 Q2.2.2.2.1 Q2.2.2.2.2.2.2.1 (by decide) (by decide) hcb (by omega)).mono fun o h2 hq2 => ?_
        rcases hq2 with ⟨x1, x2, x3⟩ | ⟨x1, x2, x3⟩
        · rw [if_pos ⟨by omega, x1⟩]
          obtain ⟨H4, R4⟩ := Q2.cur (p' := p' + 1) (lk_lt x1 (by decide))
          rw [x3] at H4 R4
          refine Or.inl ⟨_, x2, vif_n (by decide) ?_⟩
          rw [e40]
          have c7 := a7 n hn
          have kd1 : nkd (D'.2 n) = 5 := c7.1.trans hkd
          have fi1 : nfi (D'.2 n) = none := c7.2.2.2.2.2.2.trans hfi
          have g1n : g1 n + 1 + lv = 6 := by rw [a1 n hn]; exact hg
          refine (ih g1 D' (p' + 1) h2 (by omega) H4 a2 (by omega) kd1 fi1 g1n).mono fun o h3 hq3 => PX.pre (Q3'.tr R4 (Nat.le_refl _)) hq3 (fun D2 p2 z => ?_) (by omega)
          obtain ⟨_, _, _, b3, _⟩ := EIl ht (VIl ht lv (by omega)) (ob := false) (k + 1) g1 D' (p' + 1) D2 p2 a2 (by omega) kd1 fi1 g1n H4.2.2.2.2.2.2.1 z
          omega
        · rw [if_neg (fun z => x1 z.2)]
          rw [← x3]
          refine Or.inl ⟨_, x2, vif_y rfl ?_⟩
          refine (sp_clA hG hX Q2 (by omega)).mono fun o h3 hq3 => PX.pre Q3' hq3 (fun D2 p2 z => ?_) (by omega)
          split at z
          · cases z; omega
          · cases z
    | inr w =>
      rw [hpv] at hq
      obtain ⟨E, e1, i1, i2, i3, i4⟩ := hq
      exact Or.inr ⟨_, e1, _, rfl, i1, i2, i3, i4.mn (by omega)⟩
/-- the closing bracket -/
theorem sp_clO {p : Nat} {D : dS} {h : mv_H} (hG : mv_ok G) (hX : mv_okX l G) (H : RS G h r c A s t p D) (hd : 8 ≤ d) : mv_rq l G mX2_readObject (d + 1) 55 [some (.ref r), none, none, none] [] h (PX G h r c A s t D 0 5 (if lk t p = 125 then .inl (D, p + 1) else .inr p)) := by
  have hcb := H.2.2.2.2.2.1.2.2.2
  refine v_X2_readObject_55 hG ?_
  unfold w_X2_readObject_55
  refine vgb_of H.1 rfl (vob_of H.2.1 ?_)
  refine (sp_expect hG hX (ch := 125) H.2.1 H.2.2.2.1 H.2.2.2.2.2.2.1 (by decide) (by decide) hcb hd).mono fun o h1 hq => ?_
  rcases hq with ⟨x1, x2, x3⟩ | ⟨x1, x2, x3⟩
  · rw [if_pos x1]
    obtain ⟨H4, R4⟩ := H.cur (p' := p + 1) (lk_lt x1 (by decide))
    rw [x3] at H4 R4
    exact Or.inl ⟨x2, rfl, H4, R4.mn (by omega)⟩
  · rw [if_neg x1]
    refine Or.inr ⟨_, x2, _, rfl, ?_⟩
    rw [← x3]
    obtain ⟨i1, i2, i3, i4⟩ : IL G h (thr (mv_set h c (curE s p (nI p)))) r c A s p 1 := H.ill
    exact ⟨i1, i2, i3, i4.mn (by omega)⟩
theorem sp_lpO (hG : mv_ok G) (hX : mv_okX l G) (ht : tOk t) (hlv : lv ≤ 5) (hV : VC l G r c A s t lv) (hd : 2 * lv + 13 ≤ d) : ∀ (k : Nat) (g : Nat → Nat) (D : dS) (p : Nat) (h : mv_H), k < 40 → RS G h r c A s t p D → dI t g D → n < D.1 → nkd (D.2 n) = 6 → nfi (D.2 n) = none → g n + 1 + lv = 6 →
    mv_rq l G mX2_readObject (d + 1) 23 [some (.ref r), some (.int (nI n)), some (.int (nI (6 - lv))), some (.int (nI (39 - k)))] [] h (PX G h r c A s t D 0 5 (pE t (fun D p nm => pV t lv D p (some n) nm) true n (k + 1) D p)) := by
  intro k
  induction k with
  | zero =>
    intro g D p h hk H hI hn hkd hfi hg
    refine v_X2_readObject_23 hG ?_
    unfold w_X2_readObject_23
    refine vob_of H.1 ?_
    have hB : isB (nkd (D.2 n)) := by rw [hkd]; exact Or.inr rfl
    have hki : ∀ k, k ∈ nki (D.2 n) → k < D.1 := fun k hk => by rw [hI.2.2.1 n hn] at hk; exact (kF_m.mp hk).1
    have hE : pE t (fun D p nm => pV t lv D p (some n) nm) true n (0 + 1) D p = (match rdMem t D n p with
      | .inr w => .inr w
      | .inl (nm, p1) => match pV t lv D p1 (some n) nm with
      | .inr w => .inr w
      | .inl (D', p') => if 0 ≠ 0 ∧ lk t p' = 44 then pE t (fun D p nm => pV t lv D p (some n) nm) true n (0) D' (p' + 1) else if lk t p' = 125 then .inl (D', p' + 1) else .inr p') := by
      rw [pE]; rfl
    rw [hE]
    obtain ⟨d', rfl⟩ : ∃ d', d = d' + 10 := ⟨d - 10, by omega⟩
    refine (sp_readMemberName (d := d') hG hX H ht hn hki (kids_len hI hn) hkd (hI.2.2.2.1 n hn ⟨by rw [hkd]; decide, by rw [hkd]; decide⟩)).mono fun o h0 hq0 => ?_
    have hkeep : rdMem t D n p = rdMem t D n p := rfl
    cases hrm : rdMem t D n p with
    | inr w =>
      rw [hrm] at hq0
      obtain ⟨E, e1, i1, i2, i3, i4⟩ := hq0
      exact Or.inr ⟨_, e1, _, rfl, i1, i2, i3, i4.mn (by omega)⟩
    | inl q0 =>
    obtain ⟨nm, p1⟩ := q0
    rw [hrm] at hq0
    obtain ⟨b, o1, H0, sb, R0⟩ := hq0
    refine Or.inl ⟨b, o1, vob_of H0.1 ?_⟩
    have hou : ouOk t g D lv (some n) nm := by
      unfold rdMem at hrm
      split at hrm
      · cases hrm
      next q e =>
        obtain ⟨x1, x2, x3⟩ := rdS_in ht (by decide) e
        split at hrm
        · cases hrm
        next hx =>
          split at hrm
          next h58 =>
            cases hrm
            have hx' : kidN D n (sl t (bl t p + 1) (q - (bl t p + 1))) = none := Classical.byContradiction hx
            unfold kidN at hx'
            rw [List.find?_eq_none] at hx'
            have hnn : nkd (D.2 n) = 6 → ∀ k, k < D.1 → nou (D.2 k) = some n → nnm (D.2 k) ≠ sl t (bl t p + 1) (q - (bl t p + 1)) := fun _ k hk2 ho2 hnm => by
              refine hx' k ?_ (by simpa using hnm)
              rw [hI.2.2.1 n hn]
              exact kF_m.mpr ⟨hk2, ho2⟩
            exact ⟨fun o ho => by cases ho; exact ⟨hn, hB, hfi, hg, hnn⟩, fun z => (nomatch z), Or.inr ⟨_, _, by omega, by omega, rfl⟩⟩
          · cases hrm
    simp only
    refine (hV (d' + 10) g D p1 (some n) nm b h0 (by omega) H0 hI hou sb).mono fun o h1 hq => ?_
    cases hpv : pV t lv D p1 (some n) nm with
    | inl q =>
      obtain ⟨D', p'⟩ := q
      rw [hpv] at hq
      simp only
      obtain ⟨Q1, Q2, Q3⟩ := hq
      obtain ⟨g1, a1, a2, a3, a4, a5, a6, a7, a8⟩ := VIl ht lv (by omega) g D p1 (some n) nm D' p' hI hou H0.2.2.2.2.2.2.1 hpv
      have h40 := Q2.2.2.2.2.2.2.2
      have Q3' : rst G h h1 A c (4 * (D'.1 - D.1)) := R0.tr Q3 (by omega)
      refine Or.inl ⟨Q1, vif_y (by decide) ?_⟩
      rw [if_neg (fun z => z.1 rfl)]
      refine (sp_clO hG hX Q2 (by omega)).mono fun o h2 hq2 => PX.pre Q3' hq2 (fun D' p' z => ?_) (by omega)
      split at z
      · cases z; omega
      · cases z
    | inr w =>
      rw [hpv] at hq
      obtain ⟨E, e1, i1⟩ := hq
      exact Or.inr ⟨_, e1, _, rfl, IL.pre R0 i1 (by omega)⟩
  | succ k ih =>
    intro g D p h hk H hI hn hkd hfi hg
    refine v_X2_readObject_23 hG ?_
    unfold w_X2_readObject_23
    refine vob_of H.1 ?_
    have hB : isB (nkd (D.2 n)) := by rw [hkd]; exact Or.inr rfl
    have hki : ∀ k, k ∈ nki (D.2 n) → k < D.1 := fun k hk => by rw [hI.2.2.1 n hn] at hk; exact (kF_m.mp hk).1
    have hE : pE t (fun D p nm => pV t lv D p (some n) nm) true n (k + 1 + 1) D p = (match rdMem t D n p with
      | .inr w => .inr w
      | .inl (nm, p1) => match pV t lv D p1 (some n) nm with
      | .inr w => .inr w
      | .inl (D', p') => if k + 1 ≠ 0 ∧ lk t p' = 44 then pE t (fun D p nm => pV t lv D p (some n) nm) true n (k + 1) D' (p' + 1) else if lk t p' = 125 then .inl (D', p' + 1) else .inr p') := by
      rw [pE]; rfl
    rw [hE]
    obtain ⟨d', rfl⟩ : ∃ d', d = d' + 10 := ⟨d - 10, by omega⟩
    refine (sp_readMemberName (d := d') hG hX H ht hn hki (kids_len hI hn) hkd (hI.2.2.2.1 n hn ⟨by rw [hkd]; decide, by rw [hkd]; decide⟩)).mono fun o h0 hq0 => ?_
    have hkeep : rdMem t D n p = rdMem t D n p := rfl
    cases hrm : rdMem t D n p with
    | inr w =>
      rw [hrm] at hq0
      obtain ⟨E, e1, i1, i2, i3, i4⟩ := hq0
      exact Or.inr ⟨_, e1, _, rfl, i1, i2, i3, i4.mn (by omega)⟩
    | inl q0 =>
    obtain ⟨nm, p1⟩ := q0
    rw [hrm] at hq0
    obtain ⟨b, o1, H0, sb, R0⟩ := hq0
    refine Or.inl ⟨b, o1, vob_of H0.1 ?_⟩
    have hou : ouOk t g D lv (some n) nm := by
      unfold rdMem at hrm
      split at hrm
      · cases hrm
      next q e =>
        obtain ⟨x1, x2, x3⟩ := rdS_in ht (by decide) e
        split at hrm
        · cases hrm
        next hx =>
          split at hrm
          next h58 =>
            cases hrm
            have hx' : kidN D n (sl t (bl t p + 1) (q - (bl t p + 1))) = none := Classical.byContradiction hx
            unfold kidN at hx'
            rw [List.find?_eq_none] at hx'
            have hnn : nkd (D.2 n) = 6 → ∀ k, k < D.1 → nou (D.2 k) = some n → nnm (D.2 k) ≠ sl t (bl t p + 1) (q - (bl t p + 1)) := fun _ k hk2 ho2 hnm => by
              refine hx' k ?_ (by simpa using hnm)
              rw [hI.2.2.1 n hn]
              exact kF_m.mpr ⟨hk2, ho2⟩
            exact ⟨fun o ho => by cases ho; exact ⟨hn, hB, hfi, hg, hnn⟩, fun z => (nomatch z), Or.inr ⟨_, _, by omega, by omega, rfl⟩⟩
          · cases hrm
    simp only
    refine (hV (d' + 10) g D p1 (some n) nm b h0 (by omega) H0 hI hou sb).mono fun o h1 hq => ?_
    cases hpv : pV t lv D p1 (some n) nm with
    | inl q =>
      obtain ⟨D', p'⟩ := q
      rw [hpv] at hq
      simp only
      obtain ⟨Q1, Q2, Q3⟩ := hq
      obtain ⟨g1, a1, a2, a3, a4, a5, a6, a7, a8⟩ := VIl ht lv (by omega) g D p1 (some n) nm D' p' hI hou H0.2.2.2.2.2.2.1 hpv
      have h40 := Q2.2.2.2.2.2.2.2
      have Q3' : rst G h h1 A c (4 * (D'.1 - D.1)) := R0.tr Q3 (by omega)
      have hcb := H.2.2.2.2.2.1.2.2.2
      have e40 : nI (39 - (k + 1)) + 1 = nI (39 - k) := by rw [nI_1]; congr 1; omega
      refine Or.inl ⟨Q1, vif_n ?_ (vgb_of Q2.1 rfl (vob_of Q2.2.1 ?_))⟩
      · rw [e40, show (40 : Int32) = nI 40 from rfl]
        exact nI_ge (by omega) (by omega)
      · refine (sp_passes hG (ch := 44) Q2.2.1 Q2.2.2.2.1 Q2.2.2.2.2.2.2.1 (by decide) (by decide) hcb (by omega)).mono fun o h2 hq2 => ?_
        rcases hq2 with ⟨x1, x2, x3⟩ | ⟨x1, x2, x3⟩
        · rw [if_pos ⟨by omega, x1⟩]
          obtain ⟨H4, R4⟩ := Q2.cur (p' := p' + 1) (lk_lt x1 (by decide))
          rw [x3] at H4 R4
          refine Or.inl ⟨_, x2, vif_n (by decide) ?_⟩
          rw [e40]
          have c7 := a7 n hn
          have kd1 : nkd (D'.2 n) = 6 := c7.1.trans hkd
          have fi1 : nfi (D'.2 n) = none := c7.2.2.2.2.2.2.trans hfi
          have g1n : g1 n + 1 + lv = 6 := by rw [a1 n hn]; exact hg
          refine (ih g1 D' (p' + 1) h2 (by omega) H4 a2 (by omega) kd1 fi1 g1n).mono fun o h3 hq3 => PX.pre (Q3'.tr R4 (Nat.le_refl _)) hq3 (fun D2 p2 z => ?_) (by omega)
          obtain ⟨_, _, _, b3, _⟩ := EIl ht (VIl ht lv (by omega)) (ob := true) (k + 1) g1 D' (p' + 1) D2 p2 a2 (by omega) kd1 fi1 g1n H4.2.2.2.2.2.2.1 z
          omega
        · rw [if_neg (fun z => x1 z.2)]
          rw [← x3]
          refine Or.inl ⟨_, x2, vif_y rfl ?_⟩
          refine (sp_clO hG hX Q2 (by omega)).mono fun o h3 hq3 => PX.pre Q3' hq3 (fun D2 p2 z => ?_) (by omega)
          split at z
          · cases z; omega
          · cases z
    | inr w =>
      rw [hpv] at hq
      obtain ⟨E, e1, i1⟩ := hq
      exact Or.inr ⟨_, e1, _, rfl, IL.pre R0 i1 (by omega)⟩
end RV
