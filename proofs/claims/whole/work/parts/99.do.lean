/-! the calls that change the builders -/
section TH
variable {l : Launch} {G : mv_G} {d x y0 nc ns : Nat} {h h1 : mv_H} {A : aS} {cur spa v1 c1 v2 c2 : Nat} {q2 : List Nat} {qp : Option Nat}
theorem TPx.lt (T : TPx G h x y0 A cur spa v1 c1 v2 c2 q2 qp) : v1 < h.1 ∧ v2 < h.1 := ⟨(T.2.2.1.1.lt T.2.2.2.2.2.2.2.2.2.2.2.2.1.1).2, (T.2.2.2.1.1.lt T.2.2.2.2.2.2.2.2.2.2.2.2.1.1).2⟩
/-- the first builder is changed -/
theorem TPx.b1 {v1' c1' : Nat} {t' : List Nat} (T : TPx G h x y0 A cur spa v1 c1 v2 c2 q2 qp) (C : chg G h h1 (fun a => a = x + 1 ∨ a = v1)) (B : BB G h1 (x + 1) (x + 2) y0 v1' c1' t') (hv : v1' = v1 ∨ h.1 ≤ v1') (ht : tOk t') : TPx G h1 x y0 (t', A.2) cur spa v1' c1' v2 c2 q2 qp ∧ oth h h1 x y0 := by
  have hlt := T.lt
  obtain ⟨a1, a2, a3, a4, a5, a6, a7, a8, a9, ⟨src, cnt, V, I, a10⟩, a11, a12, ⟨a13, a13'⟩, a14, ⟨a15, a16, a17⟩, a18⟩ := T
  have hv1 := a3.2.2.2
  have hv2 := a4.2.2.2
  refine ⟨⟨C.at a13 a1 (by omega), a2, B, ⟨a4.1.c C a13 (by omega) (by omega), a4.2.1, a4.2.2.1.c C hlt.2, hv2⟩, by omega, a6.c C a13 (fun a _ _ => by omega), a7.c C a13 (fun a _ _ => by omega), a8.c C a13 (by omega) (by omega), a9.c C a13 (fun a _ _ => by omega), ⟨src, cnt, V, I, a10.c C a13 (fun a _ _ => by omega)⟩, a11.c C (fun a _ _ z => by omega) hv (Or.inl rfl), a12.c C a13 (fun a _ => by omega), ⟨C.1.1, a13'.c C a17⟩, ht, ⟨a15, a16, by have := C.1.2.2; omega⟩, a18⟩, fun a z1 z2 => C.2.1 a (by omega) (by omega)⟩
/-- the second builder is changed -/
theorem TPx.b2 {v2' c2' : Nat} {q2' : List Nat} (T : TPx G h x y0 A cur spa v1 c1 v2 c2 q2 qp) (C : chg G h h1 (fun a => a = x + 31 ∨ a = v2)) (B : BB G h1 (x + 31) (x + 32) y0 v2' c2' q2') (hv : v2' = v2 ∨ h.1 ≤ v2') : TPx G h1 x y0 A cur spa v1 c1 v2' c2' q2' qp ∧ oth h h1 x y0 := by
  have hlt := T.lt
  obtain ⟨a1, a2, a3, a4, a5, a6, a7, a8, a9, ⟨src, cnt, V, I, a10⟩, a11, a12, ⟨a13, a13'⟩, a14, ⟨a15, a16, a17⟩, a18⟩ := T
  have hv1 := a3.2.2.2
  have hv2 := a4.2.2.2
  refine ⟨⟨C.at a13 a1 (by omega), a2, ⟨a3.1.c C a13 (by omega) (by omega), a3.2.1, a3.2.2.1.c C hlt.1, hv1⟩, B, by omega, a6.c C a13 (fun a _ _ => by omega), a7.c C a13 (fun a _ _ => by omega), a8.c C a13 (by omega) (by omega), a9.c C a13 (fun a _ _ => by omega), ⟨src, cnt, V, I, a10.c C a13 (fun a _ _ => by omega)⟩, a11.c C (fun a _ _ z => by omega) (Or.inl rfl) hv, a12.c C a13 (fun a _ => by omega), ⟨C.1.1, a13'.c C a17⟩, a14, ⟨a15, a16, by have := C.1.2.2; omega⟩, a18⟩, fun a z1 z2 => C.2.1 a (by omega) (by omega)⟩
theorem sp_type {c : Nat} (hG : mv_ok G) (hX : mv_okX l G) (hc : c < 65536) (T : TP G h x y0 A nc ns) (hd : 10 ≤ d) : mv_rq l G mX12_type (d + 1) 0 (mv_in [.ref x, .int (nI c)] 2) [] h (fun o h1 => o = .inl (some (.int (aTyp A c).1)) ∧ TP G h1 x y0 (aTyp A c).2 nc ns ∧ oth h h1 x y0) := by
  obtain ⟨d, rfl⟩ : ∃ d', d = d' + 1 := ⟨d - 1, by omega⟩
  have T0 := T
  obtain ⟨cur, spa, v1, c1, v2, c2, q2, qp, T, n1, n2⟩ := T
  obtain ⟨hS, hc7, hns, hv0⟩ := T.2.2.1
  have hw := T.2.2.2.2.2.2.2.2.2.2.2.2.1.1
  have hok := T.2.2.2.2.2.2.2.2.2.2.2.2.2.1
  have hbs : G.2.2.1 ≤ h.1 := by have := T.2.2.2.2.2.2.2.2.2.2.2.2.2.2.1; omega
  obtain ⟨f, mb, s1, _⟩ := id hS
  refine v_X12_type hG ?_
  unfold w_X12_type aTyp
  refine vif_of (fun k1 => ?_) (fun k1 => vif_of (fun k2 => ?_) (fun k2 => vgb_of T.1 rfl (vob_of s1 (vI_of (sp_sbLen hG hS) (vif_of (fun k3 => vgb_of T.1 rfl (vob_of s1 ?_)) (fun k3 => ?_))))))
  · have : c < 32 := (nI_ltI (b := 32) (by omega) (by omega)).mp k1
    rw [if_pos (Or.inl this)]
    exact ⟨rfl, T0, fun _ _ _ => rfl⟩
  · have : 126 < c := (nI_ltI (a := 126) (by omega) (by omega)).mp k2
    rw [if_pos (Or.inr (Or.inl this))]
    exact ⟨rfl, T0, fun _ _ _ => rfl⟩
  · have l1 : ¬ c < 32 := fun z => k1 ((nI_ltI (b := 32) (by omega) (by omega)).mpr z)
    have l2 : ¬ 126 < c := fun z => k2 ((nI_ltI (a := 126) (by omega) (by omega)).mpr z)
    have l3 : A.1.length < 160 := by
      have := hok.1
      exact (nI_ltI (b := 160) (by omega) (by omega)).mp k3
    rw [if_neg (by omega)]
    refine (sp_sbC hG hX hS hc7 (by omega) (by omega) hw hbs (by omega)).mono fun o h1 hq => ?_
    obtain ⟨ho, v', cap', q1, q2', q3⟩ := hq
    have C := chg.sb q3.1 hns hS
    have hv' : v' = v1 ∨ h.1 ≤ v' := q3.1.2.2
    have ⟨T1, O1⟩ := T.b1 (t' := A.1 ++ [c]) C ⟨q1, q2', q3.1.ns hns, by have := T.2.2.2.2.2.2.2.2.2.2.2.2.2.2.1; omega⟩ hv' ⟨by rw [List.length_append]; exact l3, fun j hj => by
      rw [List.length_append] at hj
      have e1 : [c].length = 1 := rfl
      rw [lk_app]
      by_cases c5 : j < A.1.length
      · rw [if_pos c5]; exact hok.2 j c5
      · rw [if_neg c5, if_pos (by omega)]; omega⟩
    refine Or.inl ⟨_, ho, rfl, ⟨cur, spa, v', cap', v2, c2, q2, qp, T1, ?_, ?_⟩, O1⟩
    · have := q3.1.1.2.2.2.1; have := q3.2; omega
    · have := q3.1.1.2.2.2.2.2.1; have := q3.2; omega
  · have l3 : A.1.length = 160 := by
      have := hok.1
      have : ¬ A.1.length < 160 := fun z => k3 ((nI_ltI (b := 160) (by omega) (by omega)).mpr z)
      omega
    rw [if_pos (Or.inr (Or.inr l3))]
    exact ⟨rfl, T0, fun _ _ _ => rfl⟩
/-- the text that was typed is taken -/
theorem sp_take (hG : mv_ok G) (hX : mv_okX l G) (T : TPx G h x y0 A cur spa v1 c1 v2 c2 q2 qp) (hd : 10 ≤ d) : mv_rq l G mX12_takeText (d + 1) 0 (mv_in [.ref x] 2) [] h (fun o h1 => o = .inl (some (.ref h.1)) ∧ mv_str G h1 h.1 A.1 ∧ (∃ v1' c1', TPx G h1 x y0 ([], A.2) cur spa v1' c1' v2 c2 q2 qp ∧ h1.1 + (700 - c1') ≤ h.1 + (700 - c1) + 2 ∧ h1.2.1 + 2 * (700 - c1') ≤ h.2.1 + 2 * (700 - c1) + 164) ∧ oth h h1 x y0 ∧ h.1 < h1.1) := by
  obtain ⟨d, rfl⟩ : ∃ d', d = d' + 1 := ⟨d - 1, by omega⟩
  obtain ⟨hS, hc7, hns, hv0⟩ := id T.2.2.1
  have hw := T.2.2.2.2.2.2.2.2.2.2.2.2.1.1
  have hok := T.2.2.2.2.2.2.2.2.2.2.2.2.2.1
  have hbnd := T.2.2.2.2.2.2.2.2.2.2.2.2.2.2.1
  have hbs : G.2.2.1 ≤ h.1 := by omega
  obtain ⟨f, mb, s1, _⟩ := id hS
  refine v_X12_takeText hG ?_
  unfold w_X12_takeText
  refine vgb_of T.1 rfl (vob_of s1 ((sp_sbStr hG hS hc7 hw hbs (by omega)).mono fun o h1 hq => ?_))
  obtain ⟨ho, q1, q2', q3⟩ := hq
  have C1 : chg G h h1 (fun a => a = x + 1 ∨ a = v1) := chg.k q2' q3.1 q3.2.1 (fun a x1 _ => q3.2.2.2.2.2.2 a x1 (fun z => z))
  have hlt := T.lt
  have hS1 : mv_sb G h1 (x + 1) v1 c1 A.1 := by
    obtain ⟨f, mb, s1, s2, s3⟩ := hS
    exact ⟨f, mb, q3.at hw s1 (fun z => z), q3.at hw s2 (fun z => z), s3⟩
  have hns1 : nsv h1 v1 := hns.c C1 hlt.1
  obtain ⟨T1, O1⟩ := T.b1 (t' := A.1) C1 ⟨hS1, hc7, hns1, hv0⟩ (Or.inl rfl) hok
  obtain ⟨f1, mb1, s1', _⟩ := id hS1
  refine Or.inl ⟨_, ho, vgb_of T1.1 rfl (vob_of s1' ((sp_sb0 hG hX hS1 hc7 q3.1 q3.2.1 (by omega)).mono fun o2 h2 hq2 => ?_))⟩
  obtain ⟨ho2, v', cap', p1, p2, p3⟩ := hq2
  have C2 := chg.sb p3.1 hns1 hS1
  have hv' : v' = v1 ∨ h1.1 ≤ v' := p3.1.2.2
  have hn0 := q3.2.2.1
  obtain ⟨T2, O2⟩ := T1.b1 (t' := []) C2 ⟨p1, p2, p3.1.ns hns1, by omega⟩ hv' ⟨by simp, fun j hj => by simp at hj⟩
  have h1n : h.1 < h1.1 := by
    obtain ⟨_, _, _, _, z, _⟩ := id q1
    exact mv_wf_lt q3.1 z
  refine Or.inl ⟨ho2, rfl, C2.2.2.1 _ _ q1, ⟨v', cap', T2, ?_, ?_⟩, fun a z1 z2 => (O2 a z1 z2).trans (O1 a z1 z2), by have := C2.1.2.2; omega⟩
  · have := p3.1.1.2.2.2.1; have := p3.2; have := q3.2.2.2.1; omega
  · have := p3.1.1.2.2.2.2.2.1; have := p3.2; have := q3.2.2.2.2.2.1; have := hok.1; omega
/-- the path of a node -/
theorem sp_path {v i : Int32} (hG : mv_ok G) (hX : mv_okX l G) (T : TP G h x y0 A nc ns) (hd : 13 ≤ d) : mv_rq l G mX12_path (d + 1) 0 (mv_in [.ref x, .int v, .int i] 3) [] h (fun o h1 => o = .inl (some (.int (aPath A v i))) ∧ TP G h1 x y0 A nc ns ∧ oth h h1 x y0) := by
  obtain ⟨d, rfl⟩ : ∃ d', d = d' + 1 := ⟨d - 1, by omega⟩
  have T0 := T
  obtain ⟨cur, spa, v1, c1, v2, c2, q2, qp, T, n1, n2⟩ := T
  obtain ⟨K, fs, hc⟩ := T.doc
  obtain ⟨hS, hc7, hns, hv0⟩ := id T.2.2.2.1
  have hw := T.2.2.2.2.2.2.2.2.2.2.2.2.1.1
  have hbnd := T.2.2.2.2.2.2.2.2.2.2.2.2.2.2.1
  have hcs := T.2.1
  have hbs : G.2.2.1 ≤ h.1 := by omega
  obtain ⟨f, mb, s1, _⟩ := id hS
  refine v_X12_path hG ?_
  unfold w_X12_path
  refine vgb_of T.1 rfl (vob_of hc (vI_of (K.has hG) ?_))
  unfold aPath
  cases hx : nOf (dOf A.2.1) v with
  | none => exact vif_y rfl ⟨rfl, T0, fun _ _ _ => rfl⟩
  | some n =>
    obtain ⟨rfl, hn⟩ := nOf_s hx
    refine vif_n (show ¬ (1 : Int32) = 0 by decide) (vgb_of T.1 rfl (vob_of s1 ((sp_sb0 hG hX hS hc7 hw hbs (by omega)).mono fun o1 h1 hq1 => ?_)))
    obtain ⟨ho1, v', cap', p1, p2, p3⟩ := hq1
    have C1 := chg.sb p3.1 hns hS
    have hv' : v' = v2 ∨ h.1 ≤ v' := p3.1.2.2
    obtain ⟨T1, O1⟩ := T.b2 (q2' := []) C1 ⟨p1, p2, p3.1.ns hns, by omega⟩ hv'
    obtain ⟨K1, fs1, hc1⟩ := T1.doc
    obtain ⟨t, et, ht, hW, D1⟩ := K1.dh hn
    have hcur : cur + 83 ≤ y0 := by omega
    have hb1 := C1.1
    have P1 : PtS G h1 cur t (dOf A.2.1) (x + 31) v' cap' [] := ⟨D1, T1.2.2.2.2.2.2.2.2.2.2.2.1.2.2.1, p1, p2, p3.1.ns hns, hb1.1, hb1.2.1, ⟨by omega, by omega⟩, by omega⟩
    obtain ⟨fsb, hsb1⟩ := P1.sb
    refine Or.inl ⟨ho1, vgb_of T1.1 rfl (vgb_of T1.1 rfl (vob_of hc1 ((sp_appendPath hG hX ht hW hn P1 (by omega)).mono fun o2 h2 hq2 => ?_)))⟩
    obtain ⟨ho2, v'', cap'', P2, F2⟩ := hq2
    have C2 := chg.sb F2.1 (p3.1.ns hns) p1
    have hv'' : v'' = v' ∨ h1.1 ≤ v'' := F2.1.2.2
    obtain ⟨T2, O2⟩ := T1.b2 (q2' := pthT (dOf A.2.1) n) C2 ⟨P2.2.2.1, P2.2.2.2.1, P2.2.2.2.2.1, by omega⟩ hv''
    have fin : TP G h2 x y0 A nc ns ∧ oth h h2 x y0 := by
      refine ⟨⟨cur, spa, v1, c1, v'', cap'', _, qp, T2, ?_, ?_⟩, fun a z1 z2 => (O2 a z1 z2).trans (O1 a z1 z2)⟩
      · have := p3.1.1.2.2.2.1; have := p3.2; have := F2.1.1.2.2.2.1; have := F2.2; have := P2.2.2.2.1; omega
      · have := p3.1.1.2.2.2.2.2.1; have := p3.2; have := F2.1.1.2.2.2.2.2.1; have := F2.2; have := P2.2.2.2.1; omega
    refine Or.inl ⟨ho2, ?_⟩
    have hS2 := P2.2.2.1
    obtain ⟨f2, mb2, s2, _, _, _, _, s6, _⟩ := id hS2
    have hcap := P2.2.2.2.1
    show vif (i < 0) ((.inl (some (.int 0)) : mv_O) = .inl (some (.int (aAt (pthT (dOf A.2.1) n) i))) ∧ _) _
    refine vif_of (fun k1 => ⟨?_, fin⟩) (fun k1 => vgb_of T2.1 rfl (vob_of s2 (vI_of (sp_sbLen hG hS2) ?_)))
    · unfold aAt; rw [if_pos k1]
    · obtain ⟨j, j1, rfl⟩ := nI_of k1
      refine vif_of (fun k2 => ⟨?_, fin⟩) (fun k2 => ?_)
      · have := (nI_leI (by omega) j1).mp k2
        show _ = Sum.inl (some (Value.int (aAt (pthT (dOf A.2.1) n) (nI j))))
        unfold aAt
        rw [if_neg k1, nI_clamp j1, if_neg (by omega)]
      · have k2' : j < (pthT (dOf A.2.1) n).length := by
          have : ¬ (pthT (dOf A.2.1) n).length ≤ j := fun z => k2 ((nI_leI (by omega) j1).mpr z)
          omega
        refine vgb_of T2.1 rfl (vob_of s2 (vI_of (sp_sbAt hG hS2 k2' (by omega)) ⟨?_, fin⟩))
        show _ = Sum.inl (some (Value.int (aAt (pthT (dOf A.2.1) n) (nI j))))
        unfold aAt
        rw [if_neg k1, nI_clamp j1, if_pos k2']
end TH
