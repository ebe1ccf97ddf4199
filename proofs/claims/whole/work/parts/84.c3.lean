/-! texts that are the same -/
theorem mv_str_inj {G : mv_G} {h : mv_H} {a : Nat} {t u : List Nat} (h1 : mv_str G h a t) (h2 : mv_str G h a u) : t = u := by
  obtain ⟨q, x, y, f, a1, a2, a3, a4, a5⟩ := mv_str_at h1
  obtain ⟨q', x', y', f', b1, b2, b3, b4, b5⟩ := mv_str_at h2
  rw [a1] at b1
  simp only [Option.some.injEq, Sum.inr.injEq, Prod.mk.injEq, List.cons.injEq, Value.ref.injEq, true_and] at b1
  obtain ⟨rfl, _⟩ := b1
  rw [a2] at b2
  simp only [Option.some.injEq, Sum.inl.injEq, Prod.mk.injEq, true_and] at b2
  obtain ⟨hl, rfl⟩ := b2
  refine List.ext_getElem? fun i => ?_
  by_cases hi : i < t.length
  · have e1 := (a3 i hi).symm.trans (b3 i (by omega))
    have e2 := (nI_eq (by have := a4 i; omega) (by have := b4 i; omega)).mp e1
    unfold lk at e2
    rw [List.getD_eq_getElem?_getD, List.getD_eq_getElem?_getD] at e2
    rw [List.getElem?_eq_getElem hi, List.getElem?_eq_getElem (show i < u.length by omega)] at e2 ⊢
    simpa using e2
  · rw [List.getElem?_eq_none (by omega), List.getElem?_eq_none (by omega)]
theorem lk_extU {t u : List Nat} (hl : t.length = u.length) (h : ∀ j, j < t.length → lk t j = lk u j) : t = u := by
  refine List.ext_getElem? fun i => ?_
  by_cases hi : i < t.length
  · have e2 := h i hi
    unfold lk at e2
    rw [List.getD_eq_getElem?_getD, List.getD_eq_getElem?_getD] at e2
    rw [List.getElem?_eq_getElem hi, List.getElem?_eq_getElem (show i < u.length by omega)] at e2 ⊢
    simpa using e2
  · rw [List.getElem?_eq_none (by omega), List.getElem?_eq_none (by omega)]
section EQ
variable {l : Launch} {G : mv_G} {d a b : Nat} {h : mv_H} {t u : List Nat}
theorem sp_eqL {q q' : Nat} {f f' : Nat → Int32} (hG : mv_ok G) (hq : h.2.2 q = some (.inl (mv_t G 0, t.length, .inl f))) (hq' : h.2.2 q' = some (.inl (mv_t G 0, u.length, .inl f'))) (hf : ∀ j, j < t.length → f j = nI (lk t j)) (hf' : ∀ j, j < u.length → f' j = nI (lk u j)) (h1 : ∀ j, lk t j < 128) (h2 : ∀ j, lk u j < 128) (hl : t.length = u.length) (hl6 : t.length < 65536) : ∀ (k i : Nat), i + k = t.length → (∀ j, j < i → lk t j = lk u j) → mv_rq l G mJ1_equals_b5fdf d 9 [some (.ref q), some (.ref q'), some (.int (nI i))] [] h (fun o h1 => o = .inl (some (.int (if t = u then 1 else 0))) ∧ h = h1) := by
  intro k
  induction k with
  | zero =>
    intro i hi hj
    refine v_J1_equals_b5fdf_9 hG ?_
    unfold w_J1_equals_b5fdf_9
    refine vln_of hq (vif_y (nI_le (by show t.length ≤ i; omega) (by omega)) ⟨?_, rfl⟩)
    rw [if_pos (lk_extU hl fun j hj' => hj j (by omega))]
  | succ k ih =>
    intro i hi hj
    refine v_J1_equals_b5fdf_9 hG ?_
    unfold w_J1_equals_b5fdf_9
    refine vln_of hq (vif_n (nI_ge (by show i < t.length; omega) (by show t.length < _; omega)) (vai_of hq rfl (by omega) (by omega) (vai_of hq' rfl (by omega) (by omega) ?_)))
    rw [hf i (by omega), hf' i (by omega)]
    refine vif_of (fun c => ?_) (fun c => ⟨?_, rfl⟩)
    · rw [nI_1]
      have e := (nI_eq (by have := h1 i; omega) (by have := h2 i; omega)).mp c
      refine ih (i + 1) (by omega) (fun j hj' => ?_)
      by_cases ej : j = i
      · rw [ej]; exact e
      · exact hj j (by omega)
    · rw [if_neg]
      intro z
      exact c (by rw [z])
theorem sp_equals (hG : mv_ok G) (ha : mv_str G h a t) (hb : mv_str G h b u) : mv_rq l G mJ0_equals_9ea2d (d + 1) 0 (mv_in [.ref a, .ref b] 3) [] h (fun o h1 => o = .inl (some (.int (if t = u then 1 else 0))) ∧ h = h1) := by
  obtain ⟨q, x, y, f, a1, a2, a3, a4, a5⟩ := mv_str_at ha
  obtain ⟨q', x', y', f', b1, b2, b3, b4, b5⟩ := mv_str_at hb
  refine v_J0_equals_9ea2d hG ?_
  unfold w_J0_equals_9ea2d
  refine vif_of (fun c => ⟨?_, rfl⟩) (fun c => vob_of b1 (vob_of b1 (vgi_of a1 rfl (vgi_of b1 rfl (vif_y rfl (v_J0_equals_9ea2d_36 hG ?_))))))
  · simp only [Option.some.injEq] at c
    subst c
    rw [if_pos (mv_str_inj ha hb)]
  · unfold w_J0_equals_9ea2d_36
    refine vgb_of a1 rfl (vgb_of b1 rfl ?_)
    refine vI_of (x := if t = u then 1 else 0) (h' := h) (v_J1_equals_b5fdf hG ?_) (vif_of (fun c => ⟨?_, rfl⟩) (fun c => ⟨?_, rfl⟩))
    · unfold w_J1_equals_b5fdf
      refine vln_of a2 (vln_of b2 (vif_of (fun c => ?_) (fun c => ⟨?_, rfl⟩)))
      · have hl : t.length = u.length := (nI_eq (by show t.length < _; omega) (by show u.length < _; omega)).mp c
        exact sp_eqL hG a2 b2 a3 b3 a4 b4 hl a5 t.length 0 (by omega) (fun j hj => absurd hj (by omega))
      · rw [if_neg]
        intro z
        exact c (by rw [z])
    · rw [if_neg]
      intro z
      rw [if_pos z] at c
      exact absurd c (by decide)
    · by_cases e : t = u
      · rw [if_pos e]
      · rw [if_neg e] at c
        exact absurd rfl c
end EQ
