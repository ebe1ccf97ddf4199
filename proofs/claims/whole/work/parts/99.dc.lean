/-! the finder: stretches -/
theorem bm {x : Int} (h1 : -2000000 < x) (h2 : x < 2000000) : x.bmod (2 ^ 32) = x := Int.bmod_eq_of_le (by omega) (by omega)
theorem mulB {a b : Int} (h0 : 0 ≤ a) (h1 : a ≤ 1100) (h2 : -1000 < b) (h3 : b < 1000) : -1100000 ≤ a * b ∧ a * b ≤ 1100000 := by
  have e1 : a * b ≤ a * 1000 := Int.mul_le_mul_of_nonneg_left (by omega) h0
  have e2 : a * (-1000) ≤ a * b := Int.mul_le_mul_of_nonneg_left (by omega) h0
  omega
section FR
variable {l : Launch} {G : mv_G} {d a n : Nat} {h : mv_H} {kd : Int32} {nm : Nat} {f to st : Int32} {bf bt : Bool} {cd nx : Option Nat} {len : Nat}
theorem sp_firstUp (hG : mv_ok G) (ha : h.2.2 a = some (cSel kd nm f to st (b2i bf) (b2i bt) cd nx)) (hf : sm f) (hs : 0 < st.toInt) (hl : len ≤ 40) : mv_rq l G mX3_firstUpwards (d + 1) 0 (mv_in [.ref a, .int (nI len)] 2) [] h (fun o h1 => (∃ v : Int32, o = .inl (some (.int v)) ∧ v.toInt = stF bf f.toInt st.toInt len ∧ -2000 < v.toInt ∧ v.toInt < 2000) ∧ h = h1) := by
  have z0 : (0 : Int32).toInt = 0 := rfl
  refine v_X3_firstUpwards hG ?_
  unfold w_X3_firstUpwards
  refine vgi_of ha rfl ?_
  unfold stF
  rw [if_pos hs]
  cases bf with
  | false =>
    refine vif_y rfl ⟨⟨0, rfl, ?_, by rw [z0]; omega, by rw [z0]; omega⟩, rfl⟩
    rw [if_neg (by decide)]; rfl
  | true =>
    refine vif_n (by decide) (vgi_of ha rfl (vI_of (sp_fromBegin hG) ⟨⟨_, rfl, ?_⟩, rfl⟩))
    have e := frB_i hf hl
    have hb : -2000 < frB f.toInt len ∧ frB f.toInt len < 2000 := by
      unfold frB
      obtain ⟨h1, h2⟩ := hf
      split <;> omega
    rw [if_pos rfl]
    by_cases c : 0 < (if 0 ≤ f then f else nI len + f)
    · have c' := c
      rw [Int32.lt_iff_toInt_lt, z0, e] at c'
      rw [if_pos c, e]
      omega
    · have c' := c
      rw [Int32.lt_iff_toInt_lt, z0, e] at c'
      rw [if_neg c, z0]
      omega
theorem sp_endUp (hG : mv_ok G) (ha : h.2.2 a = some (cSel kd nm f to st (b2i bf) (b2i bt) cd nx)) (ht : sm to) (hs : 0 < st.toInt) (hl : len ≤ 40) : mv_rq l G mX3_endUpwards (d + 1) 0 (mv_in [.ref a, .int (nI len)] 2) [] h (fun o h1 => (∃ v : Int32, o = .inl (some (.int v)) ∧ v.toInt = stE bt to.toInt st.toInt len) ∧ h = h1) := by
  refine v_X3_endUpwards hG ?_
  unfold w_X3_endUpwards
  refine vgi_of ha rfl ?_
  unfold stE
  cases bt with
  | false =>
    refine vif_y rfl ⟨⟨_, rfl, ?_⟩, rfl⟩
    rw [if_neg (by decide), if_pos hs]; exact nI_toInt (by omega)
  | true =>
    refine vif_n (by decide) (vgi_of ha rfl (vI_of (sp_fromBegin hG) ⟨⟨_, rfl, ?_⟩, rfl⟩))
    rw [if_pos rfl]; exact frB_i ht hl
theorem sp_endDown (hG : mv_ok G) (ha : h.2.2 a = some (cSel kd nm f to st (b2i bf) (b2i bt) cd nx)) (ht : sm to) (hs : ¬ 0 < st.toInt) (hl : len ≤ 40) : mv_rq l G mX3_endDownwards (d + 1) 0 (mv_in [.ref a, .int (nI len)] 2) [] h (fun o h1 => (∃ v : Int32, o = .inl (some (.int v)) ∧ v.toInt = stE bt to.toInt st.toInt len) ∧ h = h1) := by
  refine v_X3_endDownwards hG ?_
  unfold w_X3_endDownwards
  refine vgi_of ha rfl ?_
  unfold stE
  cases bt with
  | false =>
    refine vif_y rfl ⟨⟨_, rfl, ?_⟩, rfl⟩
    rw [if_neg (by decide), if_neg hs]; rfl
  | true =>
    refine vif_n (by decide) (vgi_of ha rfl (vI_of (sp_fromBegin hG) ⟨⟨_, rfl, ?_⟩, rfl⟩))
    rw [if_pos rfl]; exact frB_i ht hl
theorem sp_firstDown (hG : mv_ok G) (ha : h.2.2 a = some (cSel kd nm f to st (b2i bf) (b2i bt) cd nx)) (hf : sm f) (hst : sm st) (hs : st.toInt < 0) (hl : len ≤ 40) : mv_rq l G mX3_firstDownwards (d + 1) 0 (mv_in [.ref a, .int (nI len)] 4) [] h (fun o h1 => (∃ v : Int32, o = .inl (some (.int v)) ∧ v.toInt = stF bf f.toInt st.toInt len ∧ -3000 < v.toInt ∧ v.toInt < 2000) ∧ h = h1) := by
  have z0 : (0 : Int32).toInt = 0 := rfl
  have el : (nI len).toInt = len := nI_toInt (by omega)
  obtain ⟨s1, s2⟩ := hst
  have rest : ∀ w0 : Int32, w0.toInt = (if bf = true then frB f.toInt len else (len : Int) - 1) → -2000 < w0.toInt → w0.toInt < 2000 → mv_rq l G mX3_firstDownwards (d + 1) 21 [some (.ref a), some (.int (nI len)), none, none] [.int w0] h (fun o h1 => (∃ v : Int32, o = .inl (some (.int v)) ∧ v.toInt = stF bf f.toInt st.toInt len ∧ -3000 < v.toInt ∧ v.toInt < 2000) ∧ h = h1) := by
    intro w0 hw w1 w2
    refine v_X3_firstDownwards_21 hG ?_
    unfold w_X3_firstDownwards_21
    have eS : stF bf f.toInt st.toInt len = (if w0.toInt < len then w0.toInt else w0.toInt + ((w0.toInt - len) / (-st.toInt) + 1) * st.toInt) := by
      unfold stF
      rw [if_neg (by omega), hw]
    rw [eS]
    refine vif_of (fun c => ?_) (fun c => ?_)
    · rw [Int32.lt_iff_toInt_lt, el] at c
      rw [if_pos c]
      exact ⟨⟨_, rfl, rfl, by omega, w2⟩, rfl⟩
    · rw [Int32.lt_iff_toInt_lt, el] at c
      rw [if_neg c]
      have sn : (-st).toInt = -st.toInt := by
        rw [Int32.toInt_neg]
        exact bm (by omega) (by omega)
      refine vgi_of ha rfl (vif_y (by rw [Int32.lt_iff_toInt_lt, z0]; exact hs) (vgi_of ha rfl ⟨fun z => ?_, vgi_of ha rfl ⟨⟨_, rfl, ?_⟩, rfl⟩⟩))
      · have := congrArg Int32.toInt z
        rw [sn, z0] at this
        omega
      · have e1 : (w0 - nI len).toInt = w0.toInt - len := by
          rw [Int32.toInt_sub, el]
          exact bm (by omega) (by omega)
        have hq0 : 0 ≤ (w0.toInt - len) / (-st.toInt) := Int.ediv_nonneg (by omega) (by omega)
        have hq1 : (w0.toInt - len) / (-st.toInt) * (-st.toInt) ≤ w0.toInt - len := Int.ediv_mul_le _ (by omega)
        have hq2 : (w0.toInt - len) / (-st.toInt) ≤ w0.toInt - len := Int.ediv_le_self _ (by omega)
        have e2 : ((w0 - nI len) / (-st)).toInt = (w0.toInt - len) / (-st.toInt) := by
          rw [Int32.toInt_div, e1, sn, Int.tdiv_eq_ediv_of_nonneg (by omega)]
          exact bm (by omega) (by omega)
        have e3 : ((w0 - nI len) / (-st) + 1).toInt = (w0.toInt - len) / (-st.toInt) + 1 := by
          rw [Int32.toInt_add, e2, show (1 : Int32).toInt = 1 from rfl]
          exact bm (by omega) (by omega)
        have hm : ((w0.toInt - len) / (-st.toInt) + 1) * st.toInt = -((w0.toInt - len) / (-st.toInt) * (-st.toInt)) + st.toInt := by
          rw [Int.add_mul, Int.one_mul, Int.mul_neg, Int.neg_neg]
        have hq3 : 0 ≤ (w0.toInt - len) / (-st.toInt) * (-st.toInt) := Int.mul_nonneg hq0 (by omega)
        have e4 : (((w0 - nI len) / (-st) + 1) * st).toInt = ((w0.toInt - len) / (-st.toInt) + 1) * st.toInt := by
          rw [Int32.toInt_mul, e3]
          exact bm (by rw [hm]; omega) (by rw [hm]; omega)
        have e5 : (w0 + ((w0 - nI len) / (-st) + 1) * st).toInt = w0.toInt + ((w0.toInt - len) / (-st.toInt) + 1) * st.toInt := by
          rw [Int32.toInt_add, e4]
          exact bm (by rw [hm]; omega) (by rw [hm]; omega)
        refine ⟨e5, ?_, ?_⟩
        · rw [e5, hm]; omega
        · rw [e5, hm]; omega
  refine v_X3_firstDownwards hG ?_
  unfold w_X3_firstDownwards
  refine vgi_of ha rfl ?_
  cases bf with
  | false =>
    have e : (nI len - 1).toInt = (len : Int) - 1 := by
      rw [Int32.toInt_sub, el, show (1 : Int32).toInt = 1 from rfl]
      exact bm (by omega) (by omega)
    refine vif_y rfl (rest _ (by rw [if_neg (by decide)]; exact e) (by omega) (by omega))
  | true =>
    have e := frB_i hf hl
    have hb : -2000 < frB f.toInt len ∧ frB f.toInt len < 2000 := by
      unfold frB
      obtain ⟨h1, h2⟩ := hf
      split <;> omega
    refine vif_n (by decide) (vgi_of ha rfl (vI_of (sp_fromBegin hG) (rest _ (by rw [if_pos rfl]; exact e) (by omega) (by omega))))
end FR
section FT
variable {l : Launch} {G : mv_G} {d f A e i : Nat} {t : List Nat} {D : dS} {kk : Int32} {h h1 : mv_H} {row : List Nat}
/-- the node at step j of a stretch -/
def stK (D : dS) (n : Nat) (F E st : Int) (j : Nat) : Option Nat := if (if 0 < st then F + j * st < E else E < F + j * st) ∧ 0 ≤ F + j * st ∧ F + j * st < (nki (D.2 n)).length then (nki (D.2 n))[(F + j * st).toNat]? else none
theorem strP_K {D : dS} {n : Nat} {hf : Bool} {fr : Int} {ht : Bool} {to st : Int} : (strP hf fr ht to st (nki (D.2 n)).length).filterMap (fun p => (nki (D.2 n))[p]?) = (List.range (nki (D.2 n)).length).filterMap (stK D n (stF hf fr st (nki (D.2 n)).length) (stE ht to st (nki (D.2 n)).length) st) := by
  unfold strP
  rw [List.filterMap_filterMap]
  congr 1
  funext j
  unfold stK
  generalize stF hf fr st (nki (D.2 n)).length + j * st = p
  show ((if (if 0 < st then p < stE ht to st (nki (D.2 n)).length else stE ht to st (nki (D.2 n)).length < p) ∧ 0 ≤ p ∧ p < (nki (D.2 n)).length then some p.toNat else none).bind fun p => (nki (D.2 n))[p]?) = _
  by_cases c : (if 0 < st then p < stE ht to st (nki (D.2 n)).length else stE ht to st (nki (D.2 n)).length < p) ∧ 0 ≤ p ∧ p < (nki (D.2 n)).length
  · rw [if_pos c, if_pos c]; rfl
  · rw [if_neg c, if_neg c]; rfl
theorem strL {n a : Nat} {g : Nat → Nat} {kd : Int32} {nm : Nat} {fr to st : Int32} {bf bt : Bool} {cd nx : Option Nat} {F E : Int32} (hG : mv_ok G) (hX : mv_okX l G) (hT : mv_t G 0 ≠ mv_t G 1) (hI : dI t g D) (hn : n < D.1) (hi : i < 10) (he : 2 * e ≤ i) (hd : 8 ≤ d) (hst : sm st) (hF : -3000 < F.toInt ∧ F.toInt < 2000) (has : f + 22 ≤ a) :
    ∀ (m j : Nat) (h : mv_H) (row : List Nat), j + m = (nki (D.2 n)).length → FS G h f A t D kk → RO G h f D i row → h.2.2 a = some (cSel kd nm fr to st (b2i bf) (b2i bt) cd nx) → mv_rq l G mX3_selectStretch (d + 1) 99 [some (.ref f), some (.int (nI n)), some (.ref a), some (.ref (f + 2 + 2 * i)), some (.int (nI (nki (D.2 n)).length)), some (.int (b2i (decide (0 < st.toInt)))), some (.int F), some (.int E), some (.int (nI j)), none] [] h (PtR G h f A t D kk e i (addsR row (((List.range (nki (D.2 n)).length).drop j).filterMap (stK D n F.toInt E.toInt st.toInt)))) := by
  have h40 := hI.1.1
  obtain ⟨k1, k2, k3, k4⟩ := hI.kids hn
  obtain ⟨d, rfl⟩ : ∃ d', d = d' + 2 := ⟨d - 2, by omega⟩
  intro m
  induction m with
  | zero =>
    intro j h row hj H hr ha
    refine v_X3_selectStretch_99 hG ?_
    unfold w_X3_selectStretch_99
    refine vif_y (nI_le (by omega) (by omega)) ?_
    rw [List.drop_eq_nil_of_le (by rw [List.length_range]; omega)]
    exact ⟨rfl, H, hr, FX.rf, fun _ _ _ _ z => z⟩
  | succ m ih =>
    intro j h row hj H hr ha
    refine v_X3_selectStretch_99 hG ?_
    unfold w_X3_selectStretch_99
    obtain ⟨s0, V0, I0, hdc0, _⟩ := id H.dh
    have hmb := mulB (a := (j : Int)) (b := st.toInt) (by omega) (by omega) hst.1 hst.2
    have em : (nI j * st).toInt = j * st.toInt := by
      rw [Int32.toInt_mul, nI_toInt (by omega)]
      exact bm (by omega) (by omega)
    have ep : (F + nI j * st).toInt = F.toInt + j * st.toInt := by
      rw [Int32.toInt_add, em]
      exact bm (by omega) (by omega)
    have ed : ((List.range (nki (D.2 n)).length).drop j).filterMap (stK D n F.toInt E.toInt st.toInt) = (stK D n F.toInt E.toInt st.toInt j).toList ++ ((List.range (nki (D.2 n)).length).drop (j + 1)).filterMap (stK D n F.toInt E.toInt st.toInt) := by
      rw [List.drop_eq_getElem_cons (by rw [List.length_range]; omega), List.filterMap_cons, List.getElem_range]
      cases stK D n F.toInt E.toInt st.toInt j <;> rfl
    have skip : ¬ (if 0 < st.toInt then F.toInt + j * st.toInt < E.toInt else E.toInt < F.toInt + j * st.toInt) → mv_rq l G mX3_selectStretch (d + 3) 99 [some (.ref f), some (.int (nI n)), some (.ref a), some (.ref (f + 2 + 2 * i)), some (.int (nI (nki (D.2 n)).length)), some (.int (b2i (decide (0 < st.toInt)))), some (.int F), some (.int E), some (.int (nI j + 1)), none] [] h (PtR G h f A t D kk e i (addsR row (((List.range (nki (D.2 n)).length).drop j).filterMap (stK D n F.toInt E.toInt st.toInt)))) := fun c => by
      have ek : stK D n F.toInt E.toInt st.toInt j = none := by unfold stK; rw [if_neg (fun z => c z.1)]
      rw [ed, ek, nI_1]
      exact ih (j + 1) h row (by omega) H hr ha
    have take : (if 0 < st.toInt then F.toInt + j * st.toInt < E.toInt else E.toInt < F.toInt + j * st.toInt) → vgb h f 5 1 fun x142 => vob h x142 3 (mv_rq l G mX1_childAt (d + 2) 0 (mv_in [.ref x142, .int (nI n), .int (F + nI j * st)] 3) [] h (vI (fun E' h1 => PtR G h f A t D kk e i (addsR row (((List.range (nki (D.2 n)).length).drop j).filterMap (stK D n F.toInt E.toInt st.toInt))) (.inr E') h1) (fun x148 h148 => vob h148 (f + 2 + 2 * i) 8 (mv_rq l G mX6_addIfThere (d + 2) 0 (mv_in [.ref (f + 2 + 2 * i), .int x148] 2) [] h148 (vU (fun E' h1 => PtR G h f A t D kk e i (addsR row (((List.range (nki (D.2 n)).length).drop j).filterMap (stK D n F.toInt E.toInt st.toInt))) (.inr E') h1) (fun h151 => mv_rq l G mX3_selectStretch (d + 3) 99 [some (.ref f), some (.int (nI n)), some (.ref a), some (.ref (f + 2 + 2 * i)), some (.int (nI (nki (D.2 n)).length)), some (.int (b2i (decide (0 < st.toInt)))), some (.int F), some (.int E), some (.int (nI j + 1)), none] [] h151 (PtR G h f A t D kk e i (addsR row (((List.range (nki (D.2 n)).length).drop j).filterMap (stK D n F.toInt E.toInt st.toInt))))))))) ) := fun c => by
      refine H.doc (vob_of hdc0.1 (vI_of (H.dh.childAt hG hI hn (by omega)) (vob_of hr.1.1 ?_)))
      rw [ep]
      have ek : stK D n F.toInt E.toInt st.toInt j = (if F.toInt + j * st.toInt < 0 then none else (nki (D.2 n))[(F.toInt + j * st.toInt).toNat]?) := by
        unfold stK
        by_cases c1 : F.toInt + j * st.toInt < 0
        · rw [if_pos c1, if_neg (fun z => by have := z.2.1; omega)]
        · rw [if_neg c1]
          by_cases c2 : F.toInt + j * st.toInt < (nki (D.2 n)).length
          · rw [if_pos ⟨c, by omega, c2⟩]
          · rw [if_neg (fun z => c2 z.2.2), List.getElem?_eq_none (by omega)]
      rw [← ek, ed, addsR_app]
      refine (pr_if hG hX hT H hi he hr (fun q hq => ?_) h40 (by omega)).mono fun o h1 hq => ?_
      · rw [ek] at hq
        split at hq
        · cases hq
        · exact k1 q (List.mem_of_getElem? hq)
      · cases hx : addsR row (stK D n F.toInt E.toInt st.toInt j).toList with
        | none =>
          rw [hx] at hq
          obtain ⟨⟨q, q1⟩, q2⟩ := hq
          exact Or.inr ⟨_, q1, ⟨_, rfl⟩, q2⟩
        | some r =>
          rw [hx] at hq
          obtain ⟨q1, q2, q3, q4, q5⟩ := hq
          refine Or.inl ⟨q1, ?_⟩
          rw [nI_1]
          exact (ih (j + 1) h1 r (by omega) q2 q3 (by rw [q4.2.1 a (by omega) (by omega) (by omega)]; exact ha)).mono fun o2 h2 hq2 => hq2.tr q4 q5
    refine vif_n (fun z => absurd ((nI_leI (by omega) (by omega)).mp z) (by omega)) (vgi_of ha rfl ?_)
    by_cases c0 : 0 < st.toInt
    · refine vif_n (by rw [decide_eq_true c0]; decide) (vif_of (fun c => skip ?_) (fun c => take ?_))
      · rw [Int32.le_iff_toInt_le, ep] at c
        rw [if_pos c0]; omega
      · rw [Int32.le_iff_toInt_le, ep] at c
        rw [if_pos c0]; omega
    · refine vif_y (by rw [decide_eq_false c0]; rfl) (vif_of (fun c => skip ?_) (fun c => take ?_))
      · rw [Int32.le_iff_toInt_le, ep] at c
        rw [if_neg c0]; omega
      · rw [Int32.le_iff_toInt_le, ep] at c
        rw [if_neg c0]; omega
theorem sp_selectStretch {n a : Nat} {g : Nat → Nat} {kd : Int32} {nm : Nat} {fr to st : Int32} {bf bt : Bool} {cd nx : Option Nat} (hG : mv_ok G) (hX : mv_okX l G) (hT : mv_t G 0 ≠ mv_t G 1) (hI : dI t g D) (hn : n < D.1) (hi : i < 10) (he : 2 * e ≤ i) (hd : 8 ≤ d) (hfr : sm fr) (hto : sm to) (hst : sm st) (has : f + 22 ≤ a) (H : FS G h f A t D kk) (hr : RO G h f D i row) (ha : h.2.2 a = some (cSel kd nm fr to st (b2i bf) (b2i bt) cd nx)) :
    mv_rq l G mX3_selectStretch (d + 1) 0 (mv_in [.ref f, .int (nI n), .ref a, .ref (f + 2 + 2 * i)] 10) [] h (PtR G h f A t D kk e i (addsR row (if nkd (D.2 n) = 5 ∧ st ≠ 0 then (strP bf fr.toInt bt to.toInt st.toInt (nki (D.2 n)).length).filterMap (fun p => (nki (D.2 n))[p]?) else []))) := by
  have z0 : (0 : Int32).toInt = 0 := rfl
  have h40 := hI.1.1
  obtain ⟨k1, k2, k3, k4⟩ := hI.kids hn
  obtain ⟨w, w0, w1, w2, _⟩ := H.dh.vl hn h40
  obtain ⟨d, rfl⟩ : ∃ d', d = d' + 1 := ⟨d - 1, by omega⟩
  refine v_X3_selectStretch hG ?_
  unfold w_X3_selectStretch
  refine H.doc (H.dh.nd (show n < 40 by omega) rfl (vgi_of w0 rfl ?_))
  rw [w1]
  refine vif_of (fun c => vgi_of ha rfl (vif_of (fun c2 => ?_) (fun c2 => H.doc (H.dh.nd (show n < 40 by omega) rfl (vgi_of w0 rfl (vgi_of ha rfl ?_)))))) (fun c => ?_)
  · rw [if_neg (fun z => z.2 c2)]
    exact ⟨rfl, H, hr, FX.rf, fun _ _ _ _ z => z⟩
  · rw [if_pos ⟨c, c2⟩, strP_K, w2, k3 (Or.inl c)]
    have hs0 : st.toInt ≠ 0 := fun z => c2 (Int32.toInt_inj.mp (by rw [z0]; exact z))
    -- the loop, with its ends
    have fin : ∀ F E : Int32, F.toInt = stF bf fr.toInt st.toInt (nki (D.2 n)).length → E.toInt = stE bt to.toInt st.toInt (nki (D.2 n)).length → -3000 < F.toInt ∧ F.toInt < 2000 → mv_rq l G mX3_selectStretch (d + 2) 94 [some (.ref f), some (.int (nI n)), some (.ref a), some (.ref (f + 2 + 2 * i)), some (.int (nI (nki (D.2 n)).length)), some (.int (b2i (decide (0 < st.toInt)))), some (.int F), none, none, none] [.int E] h (PtR G h f A t D kk e i (addsR row ((List.range (nki (D.2 n)).length).filterMap (stK D n (stF bf fr.toInt st.toInt (nki (D.2 n)).length) (stE bt to.toInt st.toInt (nki (D.2 n)).length) st.toInt)))) := fun F E e1 e2 e3 => by
      refine v_X3_selectStretch_94 hG ?_
      unfold w_X3_selectStretch_94
      rw [← e1, ← e2]
      exact strL hG hX hT hI hn hi he hd hst e3 has _ 0 h row (Nat.zero_add _) H hr ha
    refine vif_of (fun c3 => ?_) (fun c3 => ?_)
    · have c3' : st.toInt < 0 := by
        have c4 := c3
        rw [Int32.le_iff_toInt_le, z0] at c4
        omega
      have cd0 : decide (0 < st.toInt) = false := decide_eq_false (by omega)
      refine v_X3_selectStretch_50 hG ?_
      unfold w_X3_selectStretch_50
      refine vif_y rfl ((sp_firstDown hG ha hfr hst c3' k2).mono fun o h1 hq => ?_)
      obtain ⟨⟨F, q1, q2, q3, q4⟩, rfl⟩ := hq
      refine Or.inl ⟨F, q1, v_X3_selectStretch_72 hG ?_⟩
      unfold w_X3_selectStretch_72
      refine vif_y rfl ((sp_endDown hG ha hto (by omega) k2).mono fun o2 h2 hq2 => ?_)
      obtain ⟨⟨E, r1, r2⟩, rfl⟩ := hq2
      refine Or.inl ⟨E, r1, ?_⟩
      have := fin F E q2 r2 ⟨q3, q4⟩
      rw [cd0] at this
      exact this
    · have c3' : 0 < st.toInt := by
        have c4 := c3
        rw [Int32.le_iff_toInt_le, z0] at c4
        omega
      have cd0 : decide (0 < st.toInt) = true := decide_eq_true c3'
      refine v_X3_selectStretch_50 hG ?_
      unfold w_X3_selectStretch_50
      refine vif_n (by decide) ((sp_firstUp hG ha hfr c3' k2).mono fun o h1 hq => ?_)
      obtain ⟨⟨F, q1, q2, q3, q4⟩, rfl⟩ := hq
      refine Or.inl ⟨F, q1, v_X3_selectStretch_72 hG ?_⟩
      unfold w_X3_selectStretch_72
      refine vif_n (by decide) ((sp_endUp hG ha hto c3' k2).mono fun o2 h2 hq2 => ?_)
      obtain ⟨⟨E, r1, r2⟩, rfl⟩ := hq2
      refine Or.inl ⟨E, r1, ?_⟩
      have := fin F E q2 r2 ⟨by omega, q4⟩
      rw [cd0] at this
      exact this
  · rw [if_neg (fun z => c z.1)]
    exact ⟨rfl, H, hr, FX.rf, fun _ _ _ _ z => z⟩
end FT
