/-! documents and queries are taken in -/
theorem rT_ex {t : List Nat} (ht : tOk t) : ∃ S, rT t 0 S := by
  refine ⟨(fun k => if k = 5 then nI t.length else if k = 6 then nI 0 else -1, fun k j => nI (lk t j)), ?_, rfl, rfl⟩
  exact ⟨rfl, fun j hj => rfl⟩
theorem pD_w {t : List Nat} (ht : tOk t) {w : Nat} (h : pD t = .inr w) : w < 1000 := by
  obtain ⟨S, hS⟩ := rT_ex ht
  obtain ⟨S', _, _, hw, _⟩ := (e_document ht (Nat.le_refl 500) hS).2 w h
  exact hw
theorem pQ_w {t : List Nat} (ht : tOk t) {w : Nat} (h : pQ t = .inr w) : w < 1000 := by
  obtain ⟨S, hS⟩ := rT_ex ht
  obtain ⟨S', _, _, hw, _⟩ := (e_readQuery ht (Nat.le_refl 2000) hS).2 w h
  exact hw
section TI
variable {l : Launch} {G : mv_G} {d x y0 nc ns : Nat} {h h1 : mv_H} {A : aS} {cur spa v1 c1 v2 c2 : Nat} {q2 : List Nat} {qp : Option Nat}
/-- all but the builders and the finder is new -/
theorem TPx.dq {W : Nat → Prop} {cur' spa' : Nat} {qp' : Option Nat} {A' : aS} (T : TPx G h x y0 A cur spa v1 c1 v2 c2 q2 qp) (C : chg G h h1 W) (hW : ∀ a, a < h.1 → W a → a = x ∨ (x + 3 ≤ a ∧ a < x + 7) ∨ (x + 29 ≤ a ∧ a < x + 31) ∨ inD spa a) (n1 : h1.2.2 x = some (cTP x cur' spa' qp' A'.2.2.2.2)) (n2 : (cur' = x + 33 ∧ spa' = x + 116) ∨ (cur' = x + 116 ∧ spa' = x + 33)) (n0 : A'.1 = A.1) (n6 : RR G h1 x) (n8 : hrw G h1 (x + 29) A'.2.2.2.1) (n9 : DK G h1 cur' A'.2.1) (n10 : ∃ src cnt V I, hdc G h1 spa' src cnt V I) (n11 : QK G h1 y0 v1 v2 A'.2.2.1 qp') (n18 : ∀ j, j ∈ A'.2.2.2.1 → j < (dOf A'.2.1).1) : TPx G h1 x y0 A' cur' spa' v1 c1 v2 c2 q2 qp' ∧ oth h h1 x y0 := by
  have hlt := T.lt
  obtain ⟨a1, a2, a3, a4, a5, a6, a7, a8, a9, ⟨src, cnt, V, I, a10⟩, a11, a12, ⟨a13, a13'⟩, a14, ⟨a15, a16, a17⟩, a18⟩ := T
  have hv1 := a3.2.2.2
  have hv2 := a4.2.2.2
  have hn : ∀ a, a < h.1 → ¬ (a = x ∨ (x + 3 ≤ a ∧ a < x + 7) ∨ (x + 29 ≤ a ∧ a < x + 31) ∨ inD spa a) → ¬ W a := fun a ha z w => z (hW a ha w)
  have hd : ∀ a, inD spa a → x + 33 ≤ a ∧ a < x + 199 := fun a ⟨z1, z2⟩ => by omega
  have out : ∀ a, a < h.1 → (a ≠ x ∧ ¬ (x + 3 ≤ a ∧ a < x + 7) ∧ ¬ (x + 29 ≤ a ∧ a < x + 31) ∧ ¬ (x + 33 ≤ a ∧ a < x + 199)) → ¬ W a := fun a ha z => hn a ha (fun w => by
    rcases w with w | w | w | w
    · omega
    · omega
    · omega
    · have := hd a w; omega)
  refine ⟨⟨n1, n2, ⟨?_, a3.2.1, a3.2.2.1.c C hlt.1, hv1⟩, ⟨a4.1.c C a13 (out _ (by omega) (by omega)) (out _ hlt.2 (by omega)), a4.2.1, a4.2.2.1.c C hlt.2, hv2⟩, a5, n6, a7.c C a13 (fun a x1 x2 => out a (by omega) (by omega)), n8, n9, n10, n11, a12.c C a13 (fun a ha => out a (by omega) (by omega)), ⟨C.1.1, a13'.c C a17⟩, by rw [n0]; exact a14, ⟨a15, a16, by have := C.1.2.2; omega⟩, n18⟩, fun a z1 z2 => C.2.1 a (by omega) (out a (by omega) (by omega))⟩
  rw [n0]
  exact a3.1.c C a13 (out _ (by omega) (by omega)) (out _ hlt.1 (by omega))
/-- what a call answers -/
def ans (r : Int32 × Int32 × aS) (o : mv_O) : Prop := (r.1 = 0 ∧ o = .inl (some (.int r.2.1))) ∨ (r.1 = 1 ∧ ∃ q, o = .inr (xIA, q))
theorem chg.thr {W : Nat → Prop} (hw : mv_wf h) (hb : G.2.2.1 ≤ h.1) : chg G h (thr h) W := chg.k ksT.thr (hst.thr (W := fun _ => False) hw hb).1 (hst.thr (W := fun _ => False) hw hb).2.1 (fun _ _ _ => rfl)
theorem chg.set {W : Nat → Prop} {a ci : Nat} {fs : List Value} {e : va_E} (hw : mv_wf h) (hb : G.2.2.1 ≤ h.1) (h0 : h.2.2 a = some (.inr (ci, fs))) (hn : ci ≠ 0) (he : ∀ fs, e ≠ .inr (0, fs)) (ha : W a) : chg G h (mv_set h a e) W := chg.k (ksT.set h0 (nTx_o hn) he) (mv_wf_set hw h0) hb (fun b _ z => hs_n (fun w => z (w ▸ ha)))
theorem sp_document (hG : mv_ok G) (hX : mv_okX l G) (hT : mv_t G 0 ≠ mv_t G 1) (T : TP G h x y0 A nc ns) (hd : 30 ≤ d) : mv_rq l G mX12_document (d + 1) 0 (mv_in [.ref x] 2) [] h (fun o h1 => ans (aDoc A) o ∧ TP G h1 x y0 (aDoc A).2.2 (nc + 820) (ns + 8400) ∧ oth h h1 x y0) := by
  obtain ⟨d, rfl⟩ : ∃ d', d = d' + 1 := ⟨d - 1, by omega⟩
  obtain ⟨cur, spa, v1, c1, v2, c2, q2, qp, T, m1, m2⟩ := T
  have ht := T.2.2.2.2.2.2.2.2.2.2.2.2.2.1
  have hbnd := T.2.2.2.2.2.2.2.2.2.2.2.2.2.2.1
  have hcs := T.2.1
  refine v_X12_document hG hX (by omega) ?_
  unfold w_X12_document
  refine vgb_of T.1 rfl (vgb_of T.1 rfl (vob_of T.1 ((sp_take hG hX T (by omega)).mono fun o h1 hq => ?_)))
  obtain ⟨ho, hs, ⟨v1', c1', T1, k1, k2⟩, O1, _⟩ := hq
  refine Or.inl ⟨_, ho, ?_⟩
  obtain ⟨⟨w0, r1⟩, ⟨s0, p0, i0, r2⟩, r3, r4⟩ := id T1.2.2.2.2.2.1
  obtain ⟨src, cnt, V, I, hsp⟩ := T1.2.2.2.2.2.2.2.2.2.1
  have hw1 := T1.2.2.2.2.2.2.2.2.2.2.2.2.1.1
  have hb1 := T1.2.2.2.2.2.2.2.2.2.2.2.2.2.2.1
  have hx1 : G.2.2.1 ≤ h1.1 := by omega
  refine vob_of r1 ((sp_readInto hG hX hT ht r1 r2 hsp hs T1.2.2.2.2.2.2.2.2.2.2.2.1.1 ⟨by omega, by omega, by omega, by omega, by omega⟩ (by omega)).mono fun o2 h2 hq2 => ?_)
  unfold PI at hq2
  unfold aDoc
  cases hx : pD A.1 with
  | inl D =>
    rw [hx] at hq2
    obtain ⟨ho2, R2, I2⟩ := hq2
    have C2 : chg G h1 h2 (fun a => inD spa a ∨ a = x + 4 ∨ a = x + 3) := chg.k I2.2 I2.1.1 I2.1.2.1 (fun a z1 z2 => I2.1.2.2.2.2.2.2 a z1 z2)
    have no2 : ∀ a, (a < x + 3 ∨ (x + 5 ≤ a ∧ a < spa) ∨ (spa + 83 ≤ a ∧ x + 5 ≤ a)) → ¬ (inD spa a ∨ a = x + 4 ∨ a = x + 3) := fun a ha z => by rcases z with ⟨z1, z2⟩ | z | z <;> omega
    have t1 : h2.2.2 x = some (cTP x cur spa qp A.2.2.2.2) := C2.at hw1 T1.1 (no2 _ (by omega))
    refine Or.inl ⟨-1, ho2, vpu_of t1 hbnd.1 (show 9 < 10 by decide) rfl (vgi_of hs_s rfl (vif_y rfl (vgb_of hs_s rfl (vgb_of hs_s rfl (vpu_of hs_s hbnd.1 (show 6 < 10 by decide) rfl (vpu_of hs_s hbnd.1 (show 7 < 10 by decide) rfl (vgb_of hs_s rfl ?_)))))))⟩
    simp only [mv_set_set]
    obtain ⟨h3, e3⟩ : ∃ h3, h3 = mv_set h2 x (cTP x spa cur qp (-1)) := ⟨_, rfl⟩
    have C3 : chg G h2 h3 (fun a => a = x) := by rw [e3]; exact chg.set I2.1.1 I2.1.2.1 t1 (by decide) (fun fs w => by simp at w) rfl
    have t3 : h3.2.2 x = some (cTP x spa cur qp (-1)) := by rw [e3]; exact hs_s
    have n3 : h3.1 = h2.1 ∧ h3.2.1 = h2.2.1 := by rw [e3]; exact ⟨rfl, rfl⟩
    rw [show (([Value.ref (x + 1), .ref (x + 3), .ref (x + 5), .ref (x + 7), .ref (x + 29), .ref (x + 31), .ref cur, .ref spa, va_rf qp, .int A.2.2.2.2].set 9 (.int (-1))).set 6 (.ref spa)).set 7 (.ref cur) = [Value.ref (x + 1), .ref (x + 3), .ref (x + 5), .ref (x + 7), .ref (x + 29), .ref (x + 31), .ref spa, .ref cur, va_rf qp, .int (-1)] from rfl, ← e3]
    have w2 := C2.1.1
    have w3 := C3.1.1
    have hr3 : hrw G h3 (x + 29) A.2.2.2.1 := (T1.2.2.2.2.2.2.2.1.c C2 hw1 (no2 _ (by omega)) (no2 _ (by omega))).c C3 w2 (by omega) (by omega)
    obtain ⟨g1, g2, ⟨V2, I2', g3, g4⟩, g5, _⟩ := id R2
    refine vob_of hr3.1 ((sp_rclear hG hr3 w3 C3.1.2.1).mono fun o4 h4 hq4 => ?_)
    obtain ⟨ho4, p4, f4⟩ := hq4
    have C4 : chg G h3 h4 (inR (x + 29)) := chg.k (ksT.of f4 w3 (hr3.nt hT).1 (p4.nt hT).2) f4.1 f4.2.1 (fun a z1 z2 => f4.2.2.2.2.2.2 a z1 z2)
    have n4 : h4.1 = h3.1 ∧ h4.2.1 = h3.2.1 := by have := f4.2.2.1; have := f4.2.2.2.1; have := f4.2.2.2.2.1; have := f4.2.2.2.2.2.1; omega
    have t4 : h4.2.2 x = some (cTP x spa cur qp (-1)) := C4.at w3 t3 (fun z => by rcases z with z | z <;> omega)
    have ed : dOf (some A.1) = D := by unfold dOf; simp only [hx]
    have m34 : ∀ s t, mv_str G h2 s t → mv_str G h4 s t := fun s t z => C4.2.2.1 _ _ (C3.2.2.1 _ _ z)
    have hd4 : hdc G h4 spa h.1 (nI D.1) V2 I2' := (g3.c C3 w2 (fun a z1 z2 => by omega)).c C4 w3 (fun a z1 z2 z => by rcases z with z | z <;> omega)
    have hS4 : ∃ src cnt V I, hdc G h4 cur src cnt V I := by
      obtain ⟨⟨s', V', I', q1, _⟩, _⟩ := T1.2.2.2.2.2.2.2.2.1
      exact ⟨s', _, V', I', ((q1.c C2 hw1 (fun a z1 z2 => no2 a (by omega))).c C3 w2 (fun a z1 z2 => by omega)).c C4 w3 (fun a z1 z2 z => by rcases z with z | z <;> omega)⟩
    have RR4 : RR G h4 x := by
      refine ⟨⟨_, C4.at w3 (C3.at w2 g1 (by omega)) (fun z => by rcases z with z | z <;> omega)⟩, ⟨h.1, _, _, C4.at w3 (C3.at w2 g2 (by omega)) (fun z => by rcases z with z | z <;> omega)⟩, ?_, ?_⟩
      · obtain ⟨cv, z⟩ := r3
        exact ⟨cv, C4.at w3 (C3.at w2 (C2.at hw1 z (no2 _ (by omega))) (by omega)) (fun z => by rcases z with z | z <;> omega)⟩
      · obtain ⟨s', p', i', z⟩ := r4
        exact ⟨s', p', i', C4.at w3 (C3.at w2 (C2.at hw1 z (no2 _ (by omega))) (by omega)) (fun z => by rcases z with z | z <;> omega)⟩
    have Call : chg G h1 h4 (fun a => a = x ∨ (x + 3 ≤ a ∧ a < x + 7) ∨ (x + 29 ≤ a ∧ a < x + 31) ∨ inD spa a) := ((C2.mn (fun q _ z => by
      rcases z with z | z | z
      · exact Or.inr (Or.inr (Or.inr z))
      · exact Or.inr (Or.inl (by omega))
      · exact Or.inr (Or.inl (by omega)))).tr (C3.mn (fun q _ z => Or.inl z))).tr (C4.mn (fun q _ z => Or.inr (Or.inr (Or.inl (by rcases z with z | z <;> omega)))))
    have QK4 : QK G h4 y0 v1' v2 A.2.2.1 qp := T1.2.2.2.2.2.2.2.2.2.2.1.c Call (fun a z1 z2 z => by
      rcases z with z | z | z | ⟨z3, z4⟩ <;> omega) (Or.inl rfl) (Or.inl rfl)
    obtain ⟨T4, O4⟩ := T1.dq (A' := ([], some A.1, A.2.2.1, [], -1)) Call (fun a _ z => z) t4 (by omega) rfl RR4 p4 ⟨⟨h.1, V2, I2', by rw [ed]; exact hd4, by rw [ed]; exact g4.m m34, fun t et => by cases et; exact m34 _ _ g5⟩, fun t et => by cases et; exact ⟨ht, D, hx⟩⟩ hS4 QK4 (fun j hj => by (cases hj))
    refine Or.inl ⟨ho4, vgb_of t4 rfl (vgi_of hd4.1 rfl ⟨Or.inl ⟨rfl, rfl⟩, ⟨spa, cur, v1', c1', v2, c2, q2, qp, T4, ?_, ?_⟩, fun a z1 z2 => (O4 a z1 z2).trans (O1 a z1 z2)⟩)⟩
    · have := I2.1.2.2.2.1; omega
    · have := I2.1.2.2.2.2.2.1; omega
  | inr w =>
    have hw9 := pD_w ht hx
    rw [hx] at hq2
    obtain ⟨ho2, g1, ⟨pp, g2⟩, ⟨cnt', V2, I2', g3⟩, I2⟩ := hq2
    have C2 : chg G h1 h2 (fun a => inD spa a ∨ a = x + 4 ∨ a = x + 3) := chg.k I2.2 I2.1.1 I2.1.2.1 (fun a z1 z2 => I2.1.2.2.2.2.2.2 a z1 z2)
    have no2 : ∀ a, (a < x + 3 ∨ (x + 5 ≤ a ∧ a < spa) ∨ (spa + 83 ≤ a ∧ x + 5 ≤ a)) → ¬ (inD spa a ∨ a = x + 4 ∨ a = x + 3) := fun a ha z => by rcases z with ⟨z1, z2⟩ | z | z <;> omega
    have t1 : h2.2.2 x = some (cTP x cur spa qp A.2.2.2.2) := C2.at hw1 T1.1 (no2 _ (by omega))
    refine Or.inl ⟨nI w, ho2, vpu_of t1 hbnd.1 (show 9 < 10 by decide) rfl (vgi_of hs_s rfl (vif_n (nI_m1 (by omega)) ?_))⟩
    obtain ⟨h3, e3⟩ : ∃ h3, h3 = mv_set h2 x (cTP x cur spa qp (nI w)) := ⟨_, rfl⟩
    have C3 : chg G h2 h3 (fun a => a = x) := by rw [e3]; exact chg.set I2.1.1 I2.1.2.1 t1 (by decide) (fun fs w => by simp at w) rfl
    have t3 : h3.2.2 x = some (cTP x cur spa qp (nI w)) := by rw [e3]; exact hs_s
    have n3 : h3.1 = h2.1 ∧ h3.2.1 = h2.2.1 := by rw [e3]; exact ⟨rfl, rfl⟩
    rw [show ([Value.ref (x + 1), .ref (x + 3), .ref (x + 5), .ref (x + 7), .ref (x + 29), .ref (x + 31), .ref cur, .ref spa, va_rf qp, .int A.2.2.2.2].set 9 (.int (nI w))) = [Value.ref (x + 1), .ref (x + 3), .ref (x + 5), .ref (x + 7), .ref (x + 29), .ref (x + 31), .ref cur, .ref spa, va_rf qp, .int (nI w)] from rfl, ← e3]
    have w2 := C2.1.1
    have w3 := C3.1.1
    have C4 : chg G h3 (thr h3) (fun a => a = x) := chg.thr w3 C3.1.2.1
    have Call : chg G h1 (thr h3) (fun a => a = x ∨ (x + 3 ≤ a ∧ a < x + 7) ∨ (x + 29 ≤ a ∧ a < x + 31) ∨ inD spa a) := ((C2.mn (fun q _ z => by
      rcases z with z | z | z
      · exact Or.inr (Or.inr (Or.inr z))
      · exact Or.inr (Or.inl (by omega))
      · exact Or.inr (Or.inl (by omega)))).tr (C3.mn (fun q _ z => Or.inl z))).tr (C4.mn (fun q _ z => Or.inl z))
    have RR4 : RR G (thr h3) x := by
      refine ⟨⟨_, C3.at w2 g1 (by omega)⟩, ⟨h.1, _, _, C3.at w2 g2 (by omega)⟩, ?_, ?_⟩
      · obtain ⟨cv, z⟩ := r3
        exact ⟨cv, C3.at w2 (C2.at hw1 z (no2 _ (by omega))) (by omega)⟩
      · obtain ⟨s', p', i', z⟩ := r4
        exact ⟨s', p', i', C3.at w2 (C2.at hw1 z (no2 _ (by omega))) (by omega)⟩
    have hr3 : hrw G (thr h3) (x + 29) A.2.2.2.1 := ((T1.2.2.2.2.2.2.2.1.c C2 hw1 (no2 _ (by omega)) (no2 _ (by omega))).c C3 w2 (by omega) (by omega)).c C4 w3 (by omega) (by omega)
    have K4 : DK G (thr h3) cur A.2.1 := ((T1.2.2.2.2.2.2.2.2.1.c C2 hw1 (fun a z1 z2 => no2 a (by omega))).c C3 w2 (fun a z1 z2 => by omega)).c C4 w3 (fun a z1 z2 => by omega)
    have QK4 : QK G (thr h3) y0 v1' v2 A.2.2.1 qp := T1.2.2.2.2.2.2.2.2.2.2.1.c Call (fun a z1 z2 z => by
      rcases z with z | z | z | ⟨z3, z4⟩ <;> omega) (Or.inl rfl) (Or.inl rfl)
    obtain ⟨T4, O4⟩ := T1.dq (A' := ([], A.2.1, A.2.2.1, A.2.2.2.1, nI w)) Call (fun a _ z => z) t3 (by omega) rfl RR4 hr3 K4 ⟨h.1, cnt', V2, I2', (g3.c C3 w2 (fun a z1 z2 => by omega)).c C4 w3 (fun a z1 z2 => by omega)⟩ QK4 T1.2.2.2.2.2.2.2.2.2.2.2.2.2.2.2
    refine ⟨Or.inr ⟨rfl, _, rfl⟩, ⟨cur, spa, v1', c1', v2, c2, q2, qp, T4, ?_, ?_⟩, fun a z1 z2 => (O4 a z1 z2).trans (O1 a z1 z2)⟩
    · have := I2.1.2.2.2.1
      show h3.1 + 1 + _ + _ ≤ _
      omega
    · have := I2.1.2.2.2.2.2.1
      show h3.2.1 + 6 + _ + _ ≤ _
      omega
end TI
