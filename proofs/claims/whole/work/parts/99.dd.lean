/-! the finder: comparisons -/
theorem lexL_n {u v : List Nat} (h : u = [] ∨ v = []) : lexL u v = decide (u.length < v.length) := by
  cases u with
  | nil => cases v <;> rfl
  | cons a u =>
    cases v with
    | nil => rfl
    | cons b v => simp at h
theorem drop_lk {u : List Nat} {j : Nat} (h : j < u.length) : u.drop j = lk u j :: u.drop (j + 1) := by
  rw [List.drop_eq_getElem_cons h]
  congr 1
  unfold lk
  rw [List.getD_eq_getElem?_getD, List.getElem?_eq_getElem h]
  rfl
section FC
variable {l : Launch} {G : mv_G} {d a b : Nat} {h : mv_H} {u v : List Nat}
theorem lexLp (hG : mv_ok G) (ha : mv_str G h a u) (hb : mv_str G h b v) (hd : 4 ≤ d) : ∀ (m j : Nat), j + m = min u.length v.length → mv_rq l G mX3_lessString (d + 1) 14 [some (.ref a), some (.ref b), some (.int (nI (min u.length v.length))), some (.int (nI j))] [] h (fun o h1 => o = .inl (some (.int (b2i (lexL (u.drop j) (v.drop j))))) ∧ h = h1) := by
  obtain ⟨_, _, _, _, a1, _, _, au, al⟩ := mv_str_at ha
  obtain ⟨_, _, _, _, b1, _, _, bu, bl⟩ := mv_str_at hb
  intro m
  induction m with
  | zero =>
    intro j hj
    refine v_X3_lessString_14 hG ?_
    unfold w_X3_lessString_14
    refine vif_y (nI_le (by omega) (by omega)) (vob_of a1 (vI_of (sp_lenT hG ha (by omega)) (vob_of b1 (vI_of (sp_lenT hG hb (by omega)) ?_))))
    have e : lexL (u.drop j) (v.drop j) = decide (u.length < v.length) := by
      rw [lexL_n, List.length_drop, List.length_drop]
      · congr 1
        exact propext ⟨fun z => by omega, fun z => by omega⟩
      · by_cases c : u.length ≤ v.length
        · exact Or.inl (List.drop_eq_nil_of_le (by omega))
        · exact Or.inr (List.drop_eq_nil_of_le (by omega))
    rw [e]
    refine vif_of (fun c => ⟨?_, rfl⟩) (fun c => ⟨?_, rfl⟩)
    · have := (nI_leI (by omega) (by omega)).mp c
      rw [decide_eq_false (by omega)]; rfl
    · have : ¬ v.length ≤ u.length := fun z => c ((nI_leI (by omega) (by omega)).mpr z)
      rw [decide_eq_true (by omega)]; rfl
  | succ m ih =>
    intro j hj
    have h1 : j < u.length := by omega
    have h2 : j < v.length := by omega
    have l1 := au j
    have l2 := bu j
    refine v_X3_lessString_14 hG ?_
    unfold w_X3_lessString_14
    refine vif_n (fun z => absurd ((nI_leI (by omega) (by omega)).mp z) (by omega)) (vob_of a1 (vI_of (sp_charT hG ha h1 hd) (vob_of b1 (vI_of (sp_charT hG hb h2 hd) ?_))))
    have e : lexL (u.drop j) (v.drop j) = if lk u j = lk v j then lexL (u.drop (j + 1)) (v.drop (j + 1)) else decide (lk u j < lk v j) := by
      rw [drop_lk h1, drop_lk h2]; rfl
    rw [e]
    refine vif_of (fun c => ?_) (fun c => ?_)
    · rw [if_pos ((nI_eq (by omega) (by omega)).mp c), nI_1]
      exact ih (j + 1) (by omega)
    · have c' : ¬ lk u j = lk v j := fun z => c (by rw [z])
      rw [if_neg c']
      refine vob_of a1 (vI_of (sp_charT hG ha h1 hd) (vob_of b1 (vI_of (sp_charT hG hb h2 hd) ?_)))
      refine vif_of (fun c => ⟨?_, rfl⟩) (fun c => ⟨?_, rfl⟩)
      · have := (nI_leI (by omega) (by omega)).mp c
        rw [decide_eq_false (by omega)]; rfl
      · have : ¬ lk v j ≤ lk u j := fun z => c ((nI_leI (by omega) (by omega)).mpr z)
        rw [decide_eq_true (by omega)]; rfl
theorem sp_lessString (hG : mv_ok G) (ha : mv_str G h a u) (hb : mv_str G h b v) (hd : 4 ≤ d) : mv_rq l G mX3_lessString (d + 1) 0 (mv_in [.ref a, .ref b] 4) [] h (fun o h1 => o = .inl (some (.int (b2i (lexL u v)))) ∧ h = h1) := by
  obtain ⟨_, _, _, _, a1, _, _, au, al⟩ := mv_str_at ha
  obtain ⟨_, _, _, _, b1, _, _, bu, bl⟩ := mv_str_at hb
  refine v_X3_lessString hG ?_
  unfold w_X3_lessString
  refine vob_of a1 (vI_of (sp_lenT hG ha (by omega)) (vob_of b1 (vI_of (sp_lenT hG hb (by omega)) ?_)))
  have e : (if nI v.length < nI u.length then nI v.length else nI u.length) = nI (min u.length v.length) := by
    by_cases c : v.length < u.length
    · rw [if_pos (nI_lt c (by omega))]; congr 1; omega
    · rw [if_neg (nI_nlt (by omega) (by omega))]; congr 1; omega
  rw [e]
  exact lexLp hG ha hb hd _ 0 (Nat.zero_add _)
end FC
/-- a value, for a comparison -/
def vOK (G : mv_G) (h : mv_H) (A : Nat) (D : dS) (x y : Nat) (v : Option vQ) (r : Option Nat) : Prop := match v with
  | none => r = none
  | some (.inl m) => r = some (A + 43 + m) ∧ m < D.1
  | some (.inr w) => ∃ (q sr : Nat) (nu : Int32) (nm : Nat) (ou pl af be en : Int32), r = some q ∧ x ≤ q ∧ q < y ∧ h.2.2 q = some (valE w.1 w.2.1 sr nu nm ou pl af be en) ∧ mv_str G h sr w.2.2 ∧ ¬ isB w.1
section FV
variable {l : Launch} {G : mv_G} {d f A : Nat} {t : List Nat} {D : dS} {kk : Int32} {h : mv_H}
/-- the cells of a value that is there -/
theorem vOK.c {x y : Nat} {v : vQ} {r : Option Nat} (H : vOK G h A D x y (some v) r) (hD : DH G h A t D) (h40 : D.1 ≤ 40) : ∃ (q sr : Nat) (nu : Int32) (nm : Nat) (ou pl af be en : Int32), r = some q ∧ h.2.2 q = some (valE (vkd D v) (vsz D v) sr nu nm ou pl af be en) ∧ mv_str G h sr (vtx D v) := by
  cases v with
  | inl m =>
    obtain ⟨h1, h2⟩ := H
    obtain ⟨w, w0, w1, w2, w3, _⟩ := hD.vl h2 h40
    refine ⟨A + 43 + m, w.2.2.1, w.2.2.2.1, w.2.2.2.2.1, w.2.2.2.2.2.1, w.2.2.2.2.2.2.1, w.2.2.2.2.2.2.2.1, w.2.2.2.2.2.2.2.2.1, w.2.2.2.2.2.2.2.2.2, h1, ?_, w3⟩
    show _ = some (valE (nkd (D.2 m)) (nsz (D.2 m)) _ _ _ _ _ _ _ _)
    rw [w0, ← w1, ← w2]
  | inr w =>
    obtain ⟨q, sr, nu, nm, ou, pl, af, be, en, h1, h2, h3, h4, h5, h6⟩ := H
    exact ⟨q, sr, nu, nm, ou, pl, af, be, en, h1, h4, h5⟩
theorem sp_less {x1 y1 x2 y2 : Nat} {v1 v2 : Option vQ} {r1 r2 : Option Nat} (hG : mv_ok G) (hD : DH G h A t D) (h40 : D.1 ≤ 40) (H1 : vOK G h A D x1 y1 v1 r1) (H2 : vOK G h A D x2 y2 v2 r2) (hd : 5 ≤ d) : mv_rq l G mX3_less (d + 1) 0 (mv_in [va_rf r1, va_rf r2] 2) [] h (fun o h1 => o = .inl (some (.int (b2i (lesV D v1 v2)))) ∧ h = h1) := by
  obtain ⟨d, rfl⟩ : ∃ d', d = d' + 1 := ⟨d - 1, by omega⟩
  refine v_X3_less hG ?_
  unfold w_X3_less
  cases v1 with
  | none =>
    have e1 : r1 = none := H1
    rw [e1]
    refine vnl_y ⟨?_, rfl⟩
    cases v2 <;> rfl
  | some w1 =>
    obtain ⟨q1, s1, n1, m1, o1, p1, a1, b1, e1, z1, z2, z3⟩ := H1.c hD h40
    rw [z1]
    refine ⟨fun z => (by cases z), fun q hq => ?_⟩
    cases hq
    cases v2 with
    | none =>
      have e2 : r2 = none := H2
      rw [e2]
      exact vnl_y ⟨rfl, rfl⟩
    | some w2 =>
      obtain ⟨q2, s2, n2, m2, o2, p2, a2, b2, e2, y1, y2, y3⟩ := H2.c hD h40
      rw [y1]
      refine ⟨fun z => (by cases z), fun q hq => ?_⟩
      cases hq
      have el : lesV D (some w1) (some w2) = (vkd D w1 == vkd D w2 && (if vkd D w1 = 3 then decide (vsz D w1 < vsz D w2) else decide (vkd D w1 = 4) && lexL (vtx D w1) (vtx D w2))) := rfl
      rw [el]
      refine vgi_of z2 rfl (vgi_of y2 rfl (vif_of (fun c => vgi_of z2 rfl (vif_of (fun c2 => vgi_of z2 rfl (vgi_of y2 rfl (vif_of (fun c3 => ⟨?_, rfl⟩) (fun c3 => ⟨?_, rfl⟩)))) (fun c2 => vgi_of z2 rfl (vif_of (fun c3 => vgb_of z2 rfl (vgb_of y2 rfl (vI_of (sp_lessString hG z3 y3 (by omega)) ?_))) (fun c3 => ⟨?_, rfl⟩))))) (fun c => ⟨?_, rfl⟩)))
      · rw [if_pos c2, decide_eq_false (Int32.not_lt.mpr c3), Bool.and_false]; rfl
      · rw [if_pos c2, decide_eq_true (Int32.not_le.mp c3), c, beq_self_eq_true]; rfl
      · rw [if_neg c2, c, beq_self_eq_true]
        rw [c] at c3
        rw [decide_eq_true c3]
        cases lexL (vtx D w1) (vtx D w2) with
        | true => exact vif_n (by decide) ⟨rfl, rfl⟩
        | false => exact vif_y rfl ⟨rfl, rfl⟩
      · rw [if_neg c2, decide_eq_false c3, Bool.false_and, Bool.and_false]; rfl
      · rw [show (vkd D w1 == vkd D w2) = false from by simpa using c, Bool.false_and]; rfl
end FV
