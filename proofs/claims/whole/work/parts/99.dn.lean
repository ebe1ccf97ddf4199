/-! the calls that only tell -/
section TG
variable {l : Launch} {G : mv_G} {d x y0 nc ns : Nat} {h : mv_H} {A : aS}
theorem DK.dh {c : Nat} {o : Option (List Nat)} {n : Nat} (H : DK G h c o) (hn : n < (dOf o).1) : ∃ t, o = some t ∧ tOk t ∧ dW t (dOf o) ∧ DH G h c t (dOf o) := by
  obtain ⟨⟨s, V, I, a, b, c⟩, d⟩ := H
  cases o with
  | none => exact absurd hn (by simp [dOf])
  | some t =>
    obtain ⟨t1, D, t2⟩ := d t rfl
    have e : dOf (some t) = D := by unfold dOf; simp only [t2]
    exact ⟨t, rfl, t1, by rw [e]; exact pD_dW t1 t2, s, V, I, a, b, c t rfl⟩
theorem DK.le {c : Nat} {o : Option (List Nat)} (H : DK G h c o) : (dOf o).1 ≤ 40 := by
  by_cases c : 0 < (dOf o).1
  · obtain ⟨t, _, _, ⟨⟨g, hI⟩, _⟩, _⟩ := H.dh c
    exact hI.1.1
  · omega
theorem DK.has {c : Nat} {o : Option (List Nat)} {v : Int32} (hG : mv_ok G) (H : DK G h c o) : mv_rq l G mX1_has d 0 (mv_in [.ref c, .int v] 2) [] h (fun r h1 => r = .inl (some (.int (if (nOf (dOf o) v).isSome then 1 else 0))) ∧ h = h1) := by
  have hle := H.le
  obtain ⟨⟨s, V, I, a, b, c⟩, _⟩ := H
  refine (sp_has hG a hle).mono fun r h1 hq => ⟨?_, hq.2⟩
  rw [hq.1]
  congr 3
  have z0 : (0 : Int32).toInt = 0 := rfl
  have e2 : v.toNatClampNeg = v.toInt.toNat := rfl
  unfold nOf
  by_cases c1 : v < 0
  · have c1' := c1
    rw [Int32.lt_iff_toInt_lt, z0] at c1'
    rw [if_pos c1, if_neg (by omega)]; rfl
  · have c1' := c1
    rw [Int32.lt_iff_toInt_lt, z0] at c1'
    rw [if_neg c1, e2]
    by_cases c2 : v.toInt.toNat < (dOf o).1
    · rw [if_pos c2, if_pos (by omega)]; rfl
    · rw [if_neg c2, if_neg (by omega)]; rfl
theorem TPx.doc {cur spa v1 c1 v2 c2 : Nat} {q2 : List Nat} {qp : Option Nat} (T : TPx G h x y0 A cur spa v1 c1 v2 c2 q2 qp) : DK G h cur A.2.1 ∧ (∃ fs, h.2.2 cur = some (.inr (3, fs))) := by
  obtain ⟨⟨s, V, I, a, b, c⟩, d⟩ := T.2.2.2.2.2.2.2.2.1
  exact ⟨⟨⟨s, V, I, a, b, c⟩, d⟩, _, a.1⟩
theorem sp_place (hG : mv_ok G) (T : TP G h x y0 A nc ns) : mv_rq l G mX12_place d 0 (mv_in [.ref x] 1) [] h (fun o h1 => o = .inl (some (.int A.2.2.2.2)) ∧ h = h1) := by
  obtain ⟨cur, spa, v1, c1, v2, c2, q2, qp, T, _⟩ := T
  refine v_X12_place hG ?_
  unfold w_X12_place
  exact vgi_of T.1 rfl ⟨rfl, rfl⟩
theorem sp_found {v : Int32} (hG : mv_ok G) (T : TP G h x y0 A nc ns) : mv_rq l G mX12_found d 0 (mv_in [.ref x, .int v] 2) [] h (fun o h1 => o = .inl (some (.int (aFound A v))) ∧ h = h1) := by
  obtain ⟨cur, spa, v1, c1, v2, c2, q2, qp, T, _⟩ := T
  obtain ⟨a, ⟨f, b, c⟩, e, g⟩ := T.2.2.2.2.2.2.2.1
  refine v_X12_found hG ?_
  unfold w_X12_found aFound
  refine vif_of (fun c1 => ⟨by rw [if_pos c1], rfl⟩) (fun c1 => vgb_of T.1 rfl (vgi_of a rfl ?_))
  rw [if_neg c1]
  obtain ⟨j, j1, rfl⟩ := nI_of c1
  rw [nI_clamp j1]
  refine vif_of (fun c2 => ⟨?_, rfl⟩) (fun c2 => ?_)
  · rw [if_neg (by have := (nI_leI (by omega) j1).mp c2; omega)]
  · have c2' : j < A.2.2.2.1.length := by
      have : ¬ A.2.2.2.1.length ≤ j := fun z => c2 ((nI_leI (by omega) j1).mpr z)
      omega
    refine vgb_of T.1 rfl (vgb_of a rfl (vai_of b rfl (show j < 300 by omega) (by omega) ⟨?_, rfl⟩))
    rw [if_pos c2', c j c2']
theorem sp_kind {v : Int32} (hG : mv_ok G) (T : TP G h x y0 A nc ns) : mv_rq l G mX12_kind (d + 1) 0 (mv_in [.ref x, .int v] 2) [] h (fun o h1 => o = .inl (some (.int (aKind A v))) ∧ h = h1) := by
  obtain ⟨cur, spa, v1, c1, v2, c2, q2, qp, T, _⟩ := T
  obtain ⟨K, fs, hc⟩ := T.doc
  refine v_X12_kind hG ?_
  unfold w_X12_kind aKind
  refine vgb_of T.1 rfl (vob_of hc (vI_of (K.has hG) ?_))
  cases hx : nOf (dOf A.2.1) v with
  | none => exact vif_y rfl ⟨rfl, rfl⟩
  | some n =>
    obtain ⟨rfl, hn⟩ := nOf_s hx
    obtain ⟨t, _, _, hW, D⟩ := K.dh hn
    have := K.le
    obtain ⟨w, w0, w1, _⟩ := D.vl hn this
    refine vif_n (show ¬ (1 : Int32) = 0 by decide) (vgb_of T.1 rfl (D.nd (by omega) rfl (vgi_of w0 rfl ⟨?_, rfl⟩)))
    rw [w1]
theorem sp_tsize {v : Int32} (hG : mv_ok G) (T : TP G h x y0 A nc ns) : mv_rq l G mX12_size (d + 1) 0 (mv_in [.ref x, .int v] 2) [] h (fun o h1 => o = .inl (some (.int (aSize A v))) ∧ h = h1) := by
  obtain ⟨cur, spa, v1, c1, v2, c2, q2, qp, T, _⟩ := T
  obtain ⟨K, fs, hc⟩ := T.doc
  refine v_X12_size hG ?_
  unfold w_X12_size aSize
  refine vgb_of T.1 rfl (vob_of hc (vI_of (K.has hG) ?_))
  cases hx : nOf (dOf A.2.1) v with
  | none => exact vif_y rfl ⟨rfl, rfl⟩
  | some n =>
    obtain ⟨rfl, hn⟩ := nOf_s hx
    obtain ⟨t, _, _, hW, D⟩ := K.dh hn
    have := K.le
    obtain ⟨w, w0, w1, w2, _⟩ := D.vl hn this
    refine vif_n (show ¬ (1 : Int32) = 0 by decide) (vgb_of T.1 rfl (D.nd (by omega) rfl (vgi_of w0 rfl ⟨?_, rfl⟩)))
    rw [w2]
theorem sp_outer {v : Int32} (hG : mv_ok G) (T : TP G h x y0 A nc ns) : mv_rq l G mX12_outer (d + 1) 0 (mv_in [.ref x, .int v] 2) [] h (fun o h1 => o = .inl (some (.int (aOuter A v))) ∧ h = h1) := by
  obtain ⟨cur, spa, v1, c1, v2, c2, q2, qp, T, _⟩ := T
  obtain ⟨K, fs, hc⟩ := T.doc
  refine v_X12_outer hG ?_
  unfold w_X12_outer aOuter
  refine vgb_of T.1 rfl (vob_of hc (vI_of (K.has hG) ?_))
  cases hx : nOf (dOf A.2.1) v with
  | none => exact vif_y rfl ⟨rfl, rfl⟩
  | some n =>
    obtain ⟨rfl, hn⟩ := nOf_s hx
    obtain ⟨t, _, _, hW, D⟩ := K.dh hn
    have := K.le
    obtain ⟨w, w0, w1, w2, _, _, w5, _⟩ := D.vl hn this
    refine vif_n (show ¬ (1 : Int32) = 0 by decide) (vgb_of T.1 rfl (D.nd (by omega) rfl (vgi_of w0 rfl ⟨?_, rfl⟩)))
    rw [w5]
theorem sp_character {v i : Int32} (hG : mv_ok G) (T : TP G h x y0 A nc ns) (hd : 4 ≤ d) : mv_rq l G mX12_character (d + 1) 0 (mv_in [.ref x, .int v, .int i] 3) [] h (fun o h1 => o = .inl (some (.int (aChar A v i))) ∧ h = h1) := by
  obtain ⟨d, rfl⟩ : ∃ d', d = d' + 1 := ⟨d - 1, by omega⟩
  have kd := sp_kind (l := l) (d := d) (v := v) hG T
  have sz := sp_tsize (l := l) (d := d) (v := v) hG T
  obtain ⟨cur, spa, v1, c1, v2, c2, q2, qp, T, _⟩ := T
  obtain ⟨K, fs, hc⟩ := T.doc
  refine v_X12_character hG ?_
  unfold w_X12_character
  refine vob_of T.1 (vI_of kd ?_)
  unfold aChar aKind
  cases hx : nOf (dOf A.2.1) v with
  | none => exact vif_n (show ¬ (-1 : Int32) = 4 by decide) ⟨rfl, rfl⟩
  | some n =>
    have esz : aSize A v = nsz ((dOf A.2.1).2 n) := by unfold aSize; rw [hx]
    rw [esz] at sz
    obtain ⟨rfl, hn⟩ := nOf_s hx
    obtain ⟨t, _, ht, ⟨⟨g, hI⟩, _⟩, D⟩ := K.dh hn
    have h40 := K.le
    obtain ⟨w, w0, w1, w2, w3, _⟩ := D.vl hn h40
    show vif (nkd ((dOf A.2.1).2 n) = 4) _ _
    refine vif_of (fun c1 => vif_of (fun c2 => ⟨?_, rfl⟩) (fun c2 => vob_of T.1 (vI_of sz ?_))) (fun c1 => ⟨?_, rfl⟩)
    · show _ = Sum.inl (some (Value.int (if _ then _ else _)))
      rw [if_neg (fun z => z.2.1 c2)]
    · obtain ⟨s1, s2, s3, s4⟩ := hI.2.2.2.2.2.2.2.1 n hn c1
      obtain ⟨j, j1, rfl⟩ := nI_of c2
      show vif _ _ ((.inl (some (.int 0)) : mv_O) = .inl (some (.int (if nkd ((dOf A.2.1).2 n) = 4 ∧ ¬ nI j < 0 ∧ (nI j).toNatClampNeg < (ntx ((dOf A.2.1).2 n)).length then nI (lk (ntx ((dOf A.2.1).2 n)) (nI j).toNatClampNeg) else 0))) ∧ _)
      rw [s2, nI_clamp j1]
      refine vif_of (fun c3 => ?_) (fun c3 => ⟨?_, rfl⟩)
      · have c3' : j < (ntx ((dOf A.2.1).2 n)).length := (nI_ltI j1 (by omega)).mp c3
        obtain ⟨_, _, _, _, ss, _⟩ := id w3
        refine vgb_of T.1 rfl (D.nd (by omega) rfl (vgb_of w0 rfl (vob_of ss (vI_of (sp_charT hG w3 c3' (by omega)) ⟨?_, rfl⟩))))
        show _ = Sum.inl (some (Value.int (if nkd ((dOf A.2.1).2 n) = 4 ∧ ¬ nI j < 0 ∧ j < (ntx ((dOf A.2.1).2 n)).length then nI (lk (ntx ((dOf A.2.1).2 n)) j) else 0)))
        rw [if_pos ⟨c1, c2, c3'⟩]
      · have c3' : ¬ j < (ntx ((dOf A.2.1).2 n)).length := fun z => c3 ((nI_ltI j1 (by omega)).mpr z)
        rw [if_neg (fun z => c3' z.2.2)]
    · show _ = Sum.inl (some (Value.int (if _ then _ else _)))
      rw [if_neg (fun z => c1 z.1)]
theorem sp_text {v i : Int32} (hG : mv_ok G) (T : TP G h x y0 A nc ns) (hd : 5 ≤ d) : mv_rq l G mX12_text (d + 1) 0 (mv_in [.ref x, .int v, .int i] 3) [] h (fun o h1 => o = .inl (some (.int (aText A v i))) ∧ h = h1) := by
  obtain ⟨d, rfl⟩ : ∃ d', d = d' + 1 := ⟨d - 1, by omega⟩
  obtain ⟨cur, spa, v1, c1, v2, c2, q2, qp, T, _⟩ := T
  obtain ⟨K, fs, hc⟩ := T.doc
  refine v_X12_text hG ?_
  unfold w_X12_text
  refine vgb_of T.1 rfl (vob_of hc (vI_of (K.has hG) ?_))
  unfold aText
  cases hx : nOf (dOf A.2.1) v with
  | none => exact vif_y rfl ⟨rfl, rfl⟩
  | some n =>
    obtain ⟨rfl, hn⟩ := nOf_s hx
    obtain ⟨t, et, ht, hW, D⟩ := K.dh hn
    refine vif_n (show ¬ (1 : Int32) = 0 by decide) (vif_of (fun c1 => ⟨?_, rfl⟩) (fun c1 => vgb_of T.1 rfl (vob_of hc ?_)))
    · show _ = Sum.inl (some (Value.int (aAt _ i)))
      unfold aAt
      rw [if_pos c1]
    · obtain ⟨j, j1, rfl⟩ := nI_of c1
      refine vI_of (sp_source hG ht hW hn D j1 (by omega)) ⟨?_, rfl⟩
      show _ = Sum.inl (some (Value.int (aAt (txF (A.2.1.getD []) _ _ false) _)))
      rw [et]; rfl
end TG
