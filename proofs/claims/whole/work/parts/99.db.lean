/-! the finder: selectors without conditions -/
theorem addsR_app {cs ds : List Nat} : ∀ {row : List Nat}, addsR row (cs ++ ds) = (match addsR row cs with
  | none => none
  | some r => addsR r ds) := by
  induction cs with
  | nil => intro row; rfl
  | cons c cs ih =>
    intro row
    show (match addR row c with | none => none | some r => addsR r (cs ++ ds)) = (match (match addR row c with | none => none | some r => addsR r cs) with | none => none | some r => addsR r ds)
    cases addR row c with
    | none => rfl
    | some r => exact ih
/-- what comes of putting nodes into row i -/
def PtR (G : mv_G) (h : mv_H) (f A : Nat) (t : List Nat) (D : dS) (kk : Int32) (e i : Nat) (x : Option (List Nat)) (o : mv_O) (h1 : mv_H) : Prop := match x with
  | some row' => o = .inl none ∧ FS G h1 f A t D kk ∧ RO G h1 f D i row' ∧ FX G h h1 f e 0 0 ∧ ∀ j r, j < 10 → j ≠ i → hrw G h (f + 2 + 2 * j) r → hrw G h1 (f + 2 + 2 * j) r
  | none => (∃ q, o = .inr (xUO, q)) ∧ ∃ h', h1 = thr h' ∧ FS G h' f A t D kk ∧ FX G h h' f e 0 0 ∧ ∀ j r, j < 10 → j ≠ i → hrw G h (f + 2 + 2 * j) r → hrw G h' (f + 2 + 2 * j) r
section FP
variable {l : Launch} {G : mv_G} {d f A e i : Nat} {t : List Nat} {D : dS} {kk : Int32} {h h1 : mv_H} {row : List Nat}
theorem PtR.tr {x : Option (List Nat)} {o : mv_O} {h2 : mv_H} (F : FX G h h1 f e 0 0) (R : ∀ j r, j < 10 → j ≠ i → hrw G h (f + 2 + 2 * j) r → hrw G h1 (f + 2 + 2 * j) r) (P : PtR G h1 f A t D kk e i x o h2) : PtR G h f A t D kk e i x o h2 := by
  cases x with
  | none =>
    obtain ⟨p1, h', p2, p3, p4, p5⟩ := P
    exact ⟨p1, h', p2, p3, F.tr p4, fun j r h1 h2 h3 => p5 j r h1 h2 (R j r h1 h2 h3)⟩
  | some r =>
    obtain ⟨p1, p2, p3, p4, p5⟩ := P
    exact ⟨p1, p2, p3, F.tr p4, fun j r h1 h2 h3 => p5 j r h1 h2 (R j r h1 h2 h3)⟩
theorem pr_add {n : Nat} (hG : mv_ok G) (hX : mv_okX l G) (hT : mv_t G 0 ≠ mv_t G 1) (H : FS G h f A t D kk) (hi : i < 10) (he : 2 * e ≤ i) (hr : RO G h f D i row) (hn : n < D.1) (hd : 6 ≤ d) : mv_rq l G mX6_add (d + 1) 0 (mv_in [.ref (f + 2 + 2 * i), .int (nI n)] 2) [] h (PtR G h f A t D kk e i (addR row n)) :=
  (sp_fadd hG hX hT H hi hr hn hd).mono fun o h1 hq => by
    rcases hq with ⟨q1, q2, q3, q4, q5, q6⟩ | ⟨q1, q2, q3⟩
    · rw [q1]; exact ⟨q2, q3, q4, q5 e 0 0 he, q6⟩
    · rw [q1]; exact ⟨q2, h, q3, H, FX.rf, fun _ _ _ _ z => z⟩
theorem pr_if {c : Option Nat} (hG : mv_ok G) (hX : mv_okX l G) (hT : mv_t G 0 ≠ mv_t G 1) (H : FS G h f A t D kk) (hi : i < 10) (he : 2 * e ≤ i) (hr : RO G h f D i row) (hc : ∀ n, c = some n → n < D.1) (hD : D.1 ≤ 40) (hd : 6 ≤ d) : mv_rq l G mX6_addIfThere (d + 2) 0 (mv_in [.ref (f + 2 + 2 * i), .int (oI c)] 2) [] h (PtR G h f A t D kk e i (addsR row c.toList)) := by
  refine v_X6_addIfThere hG ?_
  unfold w_X6_addIfThere
  cases c with
  | none => exact vif_y rfl ⟨rfl, H, hr, FX.rf, fun _ _ _ _ z => z⟩
  | some n =>
    have hn := hc n rfl
    refine vif_n (nI_m1 (by omega)) (vob_of hr.1.1 ((pr_add hG hX hT H hi he hr hn hd).mono fun o h1 hq => ?_))
    have e1 : addsR row (some n).toList = addR row n := by
      show (match addR row n with | none => none | some r => some r) = _
      cases addR row n <;> rfl
    rw [e1]
    cases hx : addR row n with
    | none =>
      rw [hx] at hq
      obtain ⟨⟨q, q1⟩, q2⟩ := hq
      exact Or.inr ⟨_, q1, ⟨_, rfl⟩, q2⟩
    | some r =>
      rw [hx] at hq
      exact Or.inl ⟨hq.1, rfl, hq.2⟩
/-- the document that is searched -/
theorem FS.dh (H : FS G h f A t D kk) : DH G h A t D := H.2.2.2.1
theorem FS.doc {P : Nat → Prop} (H : FS G h f A t D kk) (k : P A) : vgb h f 5 1 P := vgb_of H.1 rfl k
theorem DH.kid {n j : Nat} {P : Int32 → Prop} (H : DH G h A t D) (hn : n < D.1) (h40 : D.1 ≤ 40) (hl : (nki (D.2 n)).length ≤ 40) (hj : j < (nki (D.2 n)).length) (k : P (nI (lk (nki (D.2 n)) j))) : vgb h A 3 1 fun y => vab G h y 6 (nI n) fun z => vai G h z 1 (nI j) P := by
  obtain ⟨s, V, I, a, b, c⟩ := H
  have e := (b n hn).2.2.2.2.2.2.2.2 j hj
  refine vIn a (show n < 40 by omega) rfl (vai_of (a.2.2.2.1 n (by omega)) rfl (show j < 40 by omega) (by omega) ?_)
  rw [e]; exact k
theorem DH.cnt {n : Nat} {g : Nat → Nat} {X : String × Nat → mv_H → Prop} {K : Int32 → mv_H → Prop} (hG : mv_ok G) (H : DH G h A t D) (hI : dI t g D) (hn : n < D.1) (hd : 1 ≤ d) (k : K (nI (nki (D.2 n)).length) h) : vgb h A 3 0 fun y => vab G h y 4 (nI n) fun z => vob h z 13 (mv_rq l G mX11_childCount d 0 (mv_in [.ref z] 1) [] h (vI X K)) := by
  have h40 := hI.1.1
  obtain ⟨w, w0, w1, w2, _⟩ := H.vl hn h40
  obtain ⟨k1, k2, k3, k4⟩ := hI.kids hn
  refine H.nd (show n < 40 by omega) rfl (vob_of w0 (vI_of (sp_childCount hG w0 hd) ?_))
  have e : (if w.1 = 5 ∨ w.1 = 6 then w.2.1 else 0) = nI (nki (D.2 n)).length := by
    rw [w1, w2]
    by_cases c : isB (nkd (D.2 n))
    · rw [if_pos (show nkd (D.2 n) = 5 ∨ nkd (D.2 n) = 6 from c)]; exact k3 c
    · rw [if_neg (show ¬ (nkd (D.2 n) = 5 ∨ nkd (D.2 n) = 6) from c), k4 c]; rfl
  rw [e]; exact k
theorem allL {n : Nat} {g : Nat → Nat} (hG : mv_ok G) (hX : mv_okX l G) (hT : mv_t G 0 ≠ mv_t G 1) (hI : dI t g D) (hn : n < D.1) (hi : i < 10) (he : 2 * e ≤ i) (hd : 7 ≤ d) : ∀ (m j : Nat) (h : mv_H) (row : List Nat), j + m = (nki (D.2 n)).length → FS G h f A t D kk → RO G h f D i row → mv_rq l G mX3_selectAll (d + 1) 16 [some (.ref f), some (.int (nI n)), some (.ref (f + 2 + 2 * i)), some (.int (nI (nki (D.2 n)).length)), some (.int (nI j))] [] h (PtR G h f A t D kk e i (addsR row ((nki (D.2 n)).drop j))) := by
  have h40 := hI.1.1
  obtain ⟨k1, k2, k3, k4⟩ := hI.kids hn
  obtain ⟨d, rfl⟩ : ∃ d', d = d' + 1 := ⟨d - 1, by omega⟩
  intro m
  induction m with
  | zero =>
    intro j h row hj H hr
    refine v_X3_selectAll_16 hG ?_
    unfold w_X3_selectAll_16
    refine vif_y (nI_le (by omega) (by omega)) ?_
    rw [List.drop_eq_nil_of_le (by omega)]
    exact ⟨rfl, H, hr, FX.rf, fun _ _ _ _ z => z⟩
  | succ m ih =>
    intro j h row hj H hr
    refine v_X3_selectAll_16 hG ?_
    unfold w_X3_selectAll_16
    have hlt : j < (nki (D.2 n)).length := by omega
    have hkj : lk (nki (D.2 n)) j < D.1 := k1 _ (lk_in hlt)
    refine vif_n (fun z => absurd ((nI_leI (by omega) (by omega)).mp z) (by omega)) (H.doc (H.dh.kid hn h40 k2 hlt (vob_of hr.1.1 ((pr_add hG hX hT H hi he hr hkj (by omega)).mono fun o h1 hq => ?_))))
    have ed : (nki (D.2 n)).drop j = lk (nki (D.2 n)) j :: (nki (D.2 n)).drop (j + 1) := by
      rw [List.drop_eq_getElem_cons hlt]
      congr 1
      unfold lk
      rw [List.getD_eq_getElem?_getD, List.getElem?_eq_getElem hlt]
      rfl
    have ea : addsR row ((nki (D.2 n)).drop j) = (match addR row (lk (nki (D.2 n)) j) with | none => none | some r => addsR r ((nki (D.2 n)).drop (j + 1))) := by rw [ed]; rfl
    rw [ea]
    cases hx : addR row (lk (nki (D.2 n)) j) with
    | none =>
      rw [hx] at hq
      obtain ⟨⟨q, q1⟩, q2⟩ := hq
      exact Or.inr ⟨_, q1, ⟨_, rfl⟩, q2⟩
    | some r =>
      rw [hx] at hq
      obtain ⟨q1, q2, q3, q4, q5⟩ := hq
      refine Or.inl ⟨q1, ?_⟩
      rw [nI_1]
      exact (ih (j + 1) h1 r (by omega) q2 q3).mono fun o2 h2 hq2 => hq2.tr q4 q5
theorem sp_selectAll {n : Nat} {g : Nat → Nat} (hG : mv_ok G) (hX : mv_okX l G) (hT : mv_t G 0 ≠ mv_t G 1) (hI : dI t g D) (hn : n < D.1) (hi : i < 10) (he : 2 * e ≤ i) (hd : 7 ≤ d) (H : FS G h f A t D kk) (hr : RO G h f D i row) : mv_rq l G mX3_selectAll (d + 1) 0 (mv_in [.ref f, .int (nI n), .ref (f + 2 + 2 * i)] 5) [] h (PtR G h f A t D kk e i (addsR row (nki (D.2 n)))) := by
  refine v_X3_selectAll hG ?_
  unfold w_X3_selectAll
  exact H.doc (H.dh.cnt hG hI hn (by omega) (allL hG hX hT hI hn hi he hd _ 0 h row (Nat.zero_add _) H hr))
theorem sp_fromBegin {a b : Int32} (hG : mv_ok G) : mv_rq l G mX3_fromBegin d 0 (mv_in [.int a, .int b] 2) [] h (fun o h1 => o = .inl (some (.int (if 0 ≤ a then a else b + a))) ∧ h = h1) := by
  refine v_X3_fromBegin hG ?_
  unfold w_X3_fromBegin
  exact vif_of (fun c => ⟨by rw [if_pos c], rfl⟩) (fun c => ⟨by rw [if_neg c], rfl⟩)
theorem frB_i {a : Int32} {len : Nat} (ha : sm a) (hl : len ≤ 40) : (if 0 ≤ a then a else nI len + a).toInt = frB a.toInt len := by
  have z0 : (0 : Int32).toInt = 0 := rfl
  unfold frB
  obtain ⟨h1, h2⟩ := ha
  by_cases c : 0 ≤ a
  · have c' := c
    rw [Int32.le_iff_toInt_le, z0] at c'
    rw [if_pos c, if_neg (by omega)]
  · have c' := c
    rw [Int32.le_iff_toInt_le, z0] at c'
    rw [if_neg c, if_pos (by omega), Int32.toInt_add, nI_toInt (by omega)]
    rw [Int.bmod_eq_of_le (by omega) (by omega)]
/-- the child at a place, wherever that is -/
theorem DH.childAt {n : Nat} {g : Nat → Nat} {x : Int32} (hG : mv_ok G) (H : DH G h A t D) (hI : dI t g D) (hn : n < D.1) (hd : 1 ≤ d) : mv_rq l G mX1_childAt (d + 1) 0 (mv_in [.ref A, .int (nI n), .int x] 3) [] h (fun o h1 => o = .inl (some (.int (oI (if x.toInt < 0 then none else (nki (D.2 n))[x.toInt.toNat]?)))) ∧ h = h1) := by
  have h40 := hI.1.1
  obtain ⟨k1, k2, k3, k4⟩ := hI.kids hn
  obtain ⟨s, V, I, a, b, c⟩ := H
  obtain ⟨b1, b2, b3⟩ := b n hn
  refine (sp_childAt (x := x) hG a (show n < 40 by omega) (fun m hm hv => ?_) hd).mono fun o h1 hq => ?_
  · rw [b1] at hm
    rw [← hv, b2, k3 hm, nI_toInt (by omega)]
    omega
  · refine ⟨?_, hq.2⟩
    rw [hq.1]
    congr 3
    rw [b1, b2]
    by_cases cb : isB (nkd (D.2 n))
    · have es : (nsz (D.2 n)).toInt = (nki (D.2 n)).length := by rw [k3 cb, nI_toInt (by omega)]
      by_cases cx : x.toInt < 0
      · rw [if_neg (by omega), if_pos cx]; rfl
      · rw [if_neg cx]
        by_cases cy : x.toInt.toNat < (nki (D.2 n)).length
        · rw [if_pos ⟨cb, by omega, by omega⟩, List.getElem?_eq_getElem cy]
          have e1 := b3.2.2.2.2.2.2 x.toInt.toNat cy
          have e2 : x.toNatClampNeg = x.toInt.toNat := rfl
          rw [e2, e1]
          unfold lk
          rw [List.getD_eq_getElem?_getD, List.getElem?_eq_getElem cy]
          rfl
        · rw [if_neg (by omega), List.getElem?_eq_none (by omega)]; rfl
    · rw [if_neg (fun z => cb z.1), k4 cb]
      simp
      rfl
theorem sp_selectPlace {n : Nat} {x : Int32} {g : Nat → Nat} (hG : mv_ok G) (hX : mv_okX l G) (hT : mv_t G 0 ≠ mv_t G 1) (hI : dI t g D) (hn : n < D.1) (hi : i < 10) (he : 2 * e ≤ i) (hd : 8 ≤ d) (H : FS G h f A t D kk) (hr : RO G h f D i row) (hx : sm x) : mv_rq l G mX3_selectPlace (d + 1) 0 (mv_in [.ref f, .int (nI n), .int x, .ref (f + 2 + 2 * i)] 5) [] h (PtR G h f A t D kk e i (addsR row (if nkd (D.2 n) = 5 then (if frB x.toInt (nki (D.2 n)).length < 0 then [] else ((nki (D.2 n))[(frB x.toInt (nki (D.2 n)).length).toNat]?).toList) else []))) := by
  have h40 := hI.1.1
  obtain ⟨k1, k2, k3, k4⟩ := hI.kids hn
  obtain ⟨d, rfl⟩ : ∃ d', d = d' + 2 := ⟨d - 2, by omega⟩
  obtain ⟨w, w0, w1, w2, _⟩ := H.dh.vl hn h40
  obtain ⟨s0, V0, I0, hdc0, _⟩ := id H.dh
  refine v_X3_selectPlace hG ?_
  unfold w_X3_selectPlace
  refine H.doc (H.dh.nd (show n < 40 by omega) rfl (vgi_of w0 rfl ?_))
  rw [w1]
  refine vif_of (fun c => ?_) (fun c => ?_)
  · rw [if_pos c]
    refine H.doc (vgi_of w0 rfl ?_)
    rw [w2, k3 (Or.inl c)]
    refine vI_of (sp_fromBegin hG) (vob_of hdc0.1 (vI_of (H.dh.childAt hG hI hn (by omega)) (vob_of hr.1.1 ?_)))
    rw [frB_i hx k2]
    have e1 : (if frB x.toInt (nki (D.2 n)).length < 0 then [] else ((nki (D.2 n))[(frB x.toInt (nki (D.2 n)).length).toNat]?).toList) = (if frB x.toInt (nki (D.2 n)).length < 0 then none else (nki (D.2 n))[(frB x.toInt (nki (D.2 n)).length).toNat]?).toList := by split <;> rfl
    rw [e1]
    refine (pr_if hG hX hT H hi he hr (fun m hm => ?_) h40 (by omega)).mono fun o h1 hq => ?_
    · split at hm
      · cases hm
      · exact k1 m (List.mem_of_getElem? hm)
    · cases hx : addsR row (if frB x.toInt (nki (D.2 n)).length < 0 then none else (nki (D.2 n))[(frB x.toInt (nki (D.2 n)).length).toNat]?).toList with
      | none =>
        rw [hx] at hq
        obtain ⟨⟨q, q1⟩, q2⟩ := hq
        exact Or.inr ⟨_, q1, ⟨_, rfl⟩, q2⟩
      | some r =>
        rw [hx] at hq
        exact Or.inl ⟨hq.1, rfl, hq.2⟩
  · rw [if_neg c]
    exact ⟨rfl, H, hr, FX.rf, fun _ _ _ _ z => z⟩
end FP
