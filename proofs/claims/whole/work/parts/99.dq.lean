section TJ
variable {l : Launch} {G : mv_G} {d x y0 nc ns : Nat} {h h1 : mv_H} {A : aS} {cur spa v1 c1 v2 c2 : Nat} {q2 : List Nat} {qp : Option Nat}
theorem sp_query (hG : mv_ok G) (hX : mv_okX l G) (T : TP G h x y0 A nc ns) (hd : 70 ≤ d) : mv_rq l G mX12_query (d + 1) 0 (mv_in [.ref x] 1) [] h (fun o h1 => ans (aQry A) o ∧ TP G h1 x y0 (aQry A).2.2 (nc + 820) (ns + 8400) ∧ oth h h1 x y0) := by
  obtain ⟨d, rfl⟩ : ∃ d', d = d' + 1 := ⟨d - 1, by omega⟩
  obtain ⟨cur, spa, v1, c1, v2, c2, q2, qp, T, m1, m2⟩ := T
  have ht := T.2.2.2.2.2.2.2.2.2.2.2.2.2.1
  have h160 := ht.1
  have hbnd := T.2.2.2.2.2.2.2.2.2.2.2.2.2.2.1
  have hcs := T.2.1
  refine v_X12_query hG hX (by omega) ?_
  unfold w_X12_query
  refine vgb_of T.1 rfl (vob_of T.1 ((sp_take hG hX T (by omega)).mono fun o h1 hq => ?_))
  obtain ⟨ho, hs, ⟨v1', c1', T1, k1, k2⟩, O1, _⟩ := hq
  refine Or.inl ⟨_, ho, ?_⟩
  obtain ⟨⟨w0, r1⟩, ⟨s0, p0, i0, r2⟩, ⟨cv, r3⟩, ⟨s4, p4, i4, r4⟩⟩ := id T1.2.2.2.2.2.1
  have hw1 := T1.2.2.2.2.2.2.2.2.2.2.2.2.1.1
  have hb1 := T1.2.2.2.2.2.2.2.2.2.2.2.2.2.2.1
  have hlt := T1.lt
  refine vob_of r3 ((sp_readFrom hG hX ht r3 r4 hs T1.2.2.2.2.2.2.2.2.2.2.2.1.2.1 ⟨by omega, by omega⟩ (by omega)).mono fun o2 h2 hq2 => ?_)
  obtain ⟨⟨pp, ii, g2⟩, R2, hm⟩ := hq2
  have C2 : chg G h1 h2 (fun a => a = x + 6 ∨ a = x + 5) := chg.k R2.2.2.2 R2.1.1 R2.1.2 (fun a z1 z2 => R2.2.2.1 a z1 (by omega) (by omega))
  have t1 : h2.2.2 x = some (cTP x cur spa qp A.2.2.2.2) := C2.at hw1 T1.1 (by omega)
  have w2 := C2.1.1
  have rest : ∀ (h3 : mv_H) (qp' : Option Nat) (A' : aS), A'.1 = [] → A'.2.1 = A.2.1 → A'.2.2.2.1 = A.2.2.2.1 → chg G h2 h3 (fun a => a = x) → h3.2.2 x = some (cTP x cur spa qp' A'.2.2.2.2) → (∃ cv, h3.2.2 (x + 5) = some (.inr (7, [.ref (x + 6), va_rf cv]))) → QK G h3 y0 v1' v2 A'.2.2.1 qp' → TPx G h3 x y0 A' cur spa v1' c1' v2 c2 q2 qp' ∧ oth h h3 x y0 := by
    intro h3 qp' A' e0 e1 e2 C3 t3 r5 Q3
    have Call : chg G h1 h3 (fun a => a = x ∨ (x + 3 ≤ a ∧ a < x + 7) ∨ (x + 29 ≤ a ∧ a < x + 31) ∨ inD spa a) := (C2.mn (fun q _ z => Or.inr (Or.inl (by omega)))).tr (C3.mn (fun q _ z => Or.inl z))
    have RR3 : RR G h3 x := ⟨⟨w0, C3.at w2 (C2.at hw1 r1 (by omega)) (by omega)⟩, ⟨s0, p0, i0, C3.at w2 (C2.at hw1 r2 (by omega)) (by omega)⟩, r5, ⟨_, pp, ii, C3.at w2 g2 (by omega)⟩⟩
    have hr3 : hrw G h3 (x + 29) A'.2.2.2.1 := by rw [e2]; exact (T1.2.2.2.2.2.2.2.1.c C2 hw1 (by omega) (by omega)).c C3 w2 (by omega) (by omega)
    have K3 : DK G h3 cur A'.2.1 := by rw [e1]; exact (T1.2.2.2.2.2.2.2.2.1.c C2 hw1 (fun a z1 z2 => by omega)).c C3 w2 (fun a z1 z2 => by omega)
    obtain ⟨src, cnt, V, I, hsp⟩ := T1.2.2.2.2.2.2.2.2.2.1
    have S3 : ∃ src cnt V I, hdc G h3 spa src cnt V I := ⟨src, cnt, V, I, (hsp.c C2 hw1 (fun a z1 z2 => by omega)).c C3 w2 (fun a z1 z2 => by omega)⟩
    obtain ⟨T3, O3⟩ := T1.dq (A' := A') Call (fun a _ z => z) t3 (by omega) (by rw [e0]) RR3 hr3 K3 S3 Q3 (by rw [e1, e2]; exact T1.2.2.2.2.2.2.2.2.2.2.2.2.2.2.2)
    exact ⟨T3, fun a z1 z2 => (O3 a z1 z2).trans (O1 a z1 z2)⟩
  unfold aQry
  cases hx : pQ A.1 with
  | inl dn =>
    obtain ⟨dq, n⟩ := dn
    rw [hx] at hm
    obtain ⟨ho2, a, sg, r5, P2⟩ := hm
    have r5' : h2.2.2 (x + 5) = some (.inr (7, [.ref (x + 6), va_rf (some a)])) := r5
    refine Or.inl ⟨-1, ho2, vpu_of t1 hbnd.1 (show 9 < 10 by decide) rfl (vgi_of hs_s rfl (vif_y rfl (vgb_of hs_s rfl ?_)))⟩
    have r6 : (mv_set h2 x (.inr (14, [Value.ref (x + 1), .ref (x + 3), .ref (x + 5), .ref (x + 7), .ref (x + 29), .ref (x + 31), .ref cur, .ref spa, va_rf qp, .int A.2.2.2.2].set 9 (.int (-1))))).2.2 (x + 5) = some (.inr (7, [.ref (x + 6), va_rf (some a)])) := by rw [hs_n (by omega)]; exact r5'
    refine vgr_of r6 rfl (vpu_of hs_s hbnd.1 (show 8 < 10 by decide) rfl (vgr_of hs_s rfl (vnn_of ?_)))
    rw [mv_set_set]
    obtain ⟨h3, e3⟩ : ∃ h3, h3 = mv_set h2 x (cTP x cur spa (some a) (-1)) := ⟨_, rfl⟩
    have C3 : chg G h2 h3 (fun a => a = x) := by rw [e3]; exact chg.set R2.1.1 R2.1.2 t1 (by decide) (fun fs w => by simp at w) rfl
    have t3 : h3.2.2 x = some (cTP x cur spa (some a) (-1)) := by rw [e3]; exact hs_s
    have n3 : h3.1 = h2.1 ∧ h3.2.1 = h2.2.1 := by rw [e3]; exact ⟨rfl, rfl⟩
    rw [show ([Value.ref (x + 1), .ref (x + 3), .ref (x + 5), .ref (x + 7), .ref (x + 29), .ref (x + 31), .ref cur, .ref spa, va_rf qp, .int A.2.2.2.2].set 9 (.int (-1))).set 8 (va_rf (some a)) = [Value.ref (x + 1), .ref (x + 3), .ref (x + 5), .ref (x + 7), .ref (x + 29), .ref (x + 31), .ref cur, .ref spa, va_rf (some a), .int (-1)] from rfl, ← e3]
    have P3 : KP G h3 h1.1 h2.1 a (dq, sg, n) := KP_fr.1 _ _ _ _ _ _ P2.k (fun b x1 x2 => C3.2.1 b (by omega) (by omega)) C3.2.2.1
    obtain ⟨pa1, pa2, rt, fr, la, ss, pc, _⟩ := id P3
    obtain ⟨T3, O3⟩ := rest h3 (some a) ([], A.2.1, some A.1, A.2.2.2.1, -1) rfl rfl rfl C3 t3 ⟨some a, C3.at w2 r5' (by omega)⟩ (Or.inr ⟨A.1, dq, n, a, sg, h1.1, h2.1, rfl, hx, rfl, P3, by omega, R2.2.1.1, by omega, by omega, by omega⟩)
    refine vgi_of pc rfl ⟨Or.inl ⟨rfl, rfl⟩, ⟨cur, spa, v1', c1', v2, c2, q2, some a, T3, ?_, ?_⟩, O3⟩
    · have := R2.2.1.2.1; omega
    · have := R2.2.1.2.2.2; omega
  | inr w =>
    have hw9 := pQ_w ht hx
    rw [hx] at hm
    obtain ⟨ho2, r5⟩ := hm
    refine Or.inl ⟨nI w, ho2, vpu_of t1 hbnd.1 (show 9 < 10 by decide) rfl (vgi_of hs_s rfl (vif_n (nI_m1 (by omega)) ?_))⟩
    obtain ⟨h3, e3⟩ : ∃ h3, h3 = mv_set h2 x (cTP x cur spa qp (nI w)) := ⟨_, rfl⟩
    have C3 : chg G h2 h3 (fun a => a = x) := by rw [e3]; exact chg.set R2.1.1 R2.1.2 t1 (by decide) (fun fs w => by simp at w) rfl
    have t3 : h3.2.2 x = some (cTP x cur spa qp (nI w)) := by rw [e3]; exact hs_s
    have n3 : h3.1 = h2.1 ∧ h3.2.1 = h2.2.1 := by rw [e3]; exact ⟨rfl, rfl⟩
    rw [show ([Value.ref (x + 1), .ref (x + 3), .ref (x + 5), .ref (x + 7), .ref (x + 29), .ref (x + 31), .ref cur, .ref spa, va_rf qp, .int A.2.2.2.2].set 9 (.int (nI w))) = [Value.ref (x + 1), .ref (x + 3), .ref (x + 5), .ref (x + 7), .ref (x + 29), .ref (x + 31), .ref cur, .ref spa, va_rf qp, .int (nI w)] from rfl, ← e3]
    have C4 : chg G h2 (thr h3) (fun a => a = x) := C3.tr (chg.thr C3.1.1 C3.1.2.1)
    have Q3 : QK G (thr h3) y0 v1' v2 A.2.2.1 qp := T1.2.2.2.2.2.2.2.2.2.2.1.c ((C2.mn (W' := fun a => a = x ∨ a = x + 6 ∨ a = x + 5) (fun q _ z => Or.inr z)).tr (C4.mn (fun q _ z => Or.inl z))) (fun a z1 z2 z => by omega) (Or.inl rfl) (Or.inl rfl)
    obtain ⟨T3, O3⟩ := rest (thr h3) qp ([], A.2.1, A.2.2.1, A.2.2.2.1, nI w) rfl rfl rfl C4 t3 ⟨cv, C4.at w2 (by rw [r5]; exact r3) (by omega)⟩ Q3
    refine ⟨Or.inr ⟨rfl, _, rfl⟩, ⟨cur, spa, v1', c1', v2, c2, q2, qp, T3, ?_, ?_⟩, O3⟩
    · have := R2.2.1.2.1
      show h3.1 + 1 + _ + _ ≤ _
      omega
    · have := R2.2.1.2.2.2
      show h3.2.1 + 6 + _ + _ ≤ _
      omega
end TJ
