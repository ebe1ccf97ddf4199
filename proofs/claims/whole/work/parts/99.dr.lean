section TK
variable {l : Launch} {G : mv_G} {d x y0 nc ns : Nat} {h h1 : mv_H} {A : aS} {cur spa v1 c1 v2 c2 : Nat} {q2 : List Nat} {qp : Option Nat}
theorem addAllL {P R : Nat} {row : List Nat} (hG : mv_ok G) (hX : mv_okX l G) (hPR : P + 1 < R ∨ R + 1 < P) (hd : 7 ≤ d) : ∀ (m j : Nat) (h : mv_H), j + m = row.length → hrw G h P (row.take j) → hrw G h R row → mv_wf h → G.2.2.1 ≤ h.1 → mv_rq l G mX6_addAll (d + 1) 2 [some (.ref P), some (.ref R), some (.int (nI j))] [] h (fun o h1 => o = .inl none ∧ hrw G h1 P row ∧ hst G h h1 (inR P) 0 0) := by
  obtain ⟨d, rfl⟩ : ∃ d', d = d' + 1 := ⟨d - 1, by omega⟩
  intro m
  induction m with
  | zero =>
    intro j h hj hp hr hw hb
    have hrl := hr.2.2.1
    refine v_X6_addAll_2 hG ?_
    unfold w_X6_addAll_2
    refine vgi_of hr.1 rfl (vif_y (nI_le (by omega) (by omega)) ⟨rfl, ?_, hst.rf hw hb⟩)
    rw [List.take_of_length_le (by omega)] at hp
    exact hp
  | succ m ih =>
    intro j h hj hp hr hw hb
    have hrl := hr.2.2.1
    have hlt : j < row.length := by omega
    obtain ⟨r1, ⟨f, r2, r3⟩, _⟩ := id hr
    refine v_X6_addAll_2 hG ?_
    unfold w_X6_addAll_2
    refine vgi_of r1 rfl (vif_n (fun z => absurd ((nI_leI (by omega) (by omega)).mp z) (by omega)) (vgb_of r1 rfl (vai_of r2 rfl (show j < 300 by omega) (by omega) (vob_of hp.1 ?_))))
    rw [r3 j hlt]
    refine (sp_radd hG hX hp hw hb (by omega)).mono fun o h1 hq => ?_
    rcases hq with ⟨q1, q2, q3, q4⟩ | ⟨q1, _⟩
    · refine Or.inl ⟨q2, ?_⟩
      rw [tk_s hlt] at q3
      rw [nI_1]
      have hr1 : hrw G h1 R row := by
        obtain ⟨z1, ⟨z2, z3, z4⟩, z5⟩ := hr
        exact ⟨q4.at hw z1 (fun z => by rcases z with z | z <;> omega), ⟨z2, q4.at hw z3 (fun z => by rcases z with z | z <;> omega), z4⟩, z5⟩
      refine (ih (j + 1) h1 (by omega) q3 hr1 q4.1 q4.2.1).mono fun o2 h2 hq2 => ⟨hq2.1, hq2.2.1, q4.tr hq2.2.2 (fun _ _ z => z) (fun _ _ z => z) (by omega) (by omega)⟩
    · rw [List.length_take] at q1
      omega
theorem sp_addAll {P R : Nat} {row : List Nat} (hG : mv_ok G) (hX : mv_okX l G) (hPR : P + 1 < R ∨ R + 1 < P) (hd : 7 ≤ d) (hp : hrw G h P []) (hr : hrw G h R row) (hw : mv_wf h) (hb : G.2.2.1 ≤ h.1) : mv_rq l G mX6_addAll (d + 1) 0 (mv_in [.ref P, .ref R] 3) [] h (fun o h1 => o = .inl none ∧ hrw G h1 P row ∧ hst G h h1 (inR P) 0 0) := by
  refine v_X6_addAll hG ?_
  unfold w_X6_addAll
  exact addAllL hG hX hPR hd _ 0 h (Nat.zero_add _) (by rw [List.take_zero]; exact hp) hr hw hb
abbrev xIS : String := "java/lang/IllegalStateException"
/-- what find answers -/
def ansO (r : Int32 × Int32 × aS) (o : mv_O) : Prop := (r.1 = 0 ∧ o = .inl (some (.int r.2.1))) ∨ (r.1 = 1 ∧ ∃ q, o = .inr (xIS, q)) ∨ (r.1 = 2 ∧ ∃ q, o = .inr (xUO, q))
/-- the finder, its rows and the query's cells are changed -/
theorem TPx.fd {W : Nat → Prop} {A' : aS} (T : TPx G h x y0 A cur spa v1 c1 v2 c2 q2 qp) (C : chg G h h1 W) (hW : ∀ a, a < h.1 → W a → (x + 7 ≤ a ∧ a < x + 31) ∨ (y0 ≤ a ∧ a ≠ v1 ∧ a ≠ v2)) (n0 : A'.1 = A.1 ∧ A'.2.1 = A.2.1 ∧ A'.2.2.2.2 = A.2.2.2.2) (n7 : FR G h1 (x + 7)) (n8 : hrw G h1 (x + 29) A'.2.2.2.1) (n11 : QK G h1 y0 v1 v2 A'.2.2.1 qp) (n18 : ∀ j, j ∈ A'.2.2.2.1 → j < (dOf A'.2.1).1) : TPx G h1 x y0 A' cur spa v1 c1 v2 c2 q2 qp ∧ oth h h1 x y0 := by
  have hlt := T.lt
  obtain ⟨a1, a2, a3, a4, a5, a6, a7, a8, a9, ⟨src, cnt, V, I, a10⟩, a11, a12, ⟨a13, a13'⟩, a14, ⟨a15, a16, a17⟩, a18⟩ := T
  have hv1 := a3.2.2.2
  have hv2 := a4.2.2.2
  have out : ∀ a, a < h.1 → (a < x + 7 ∨ (x + 31 ≤ a ∧ a < y0) ∨ a = v1 ∨ a = v2) → ¬ W a := fun a ha z w => by
    rcases hW a ha w with q | q <;> omega
  obtain ⟨e0, e1, e2⟩ := n0
  refine ⟨⟨by rw [e2]; exact C.at a13 a1 (out _ (by omega) (by omega)), a2, ⟨by rw [e0]; exact a3.1.c C a13 (out _ (by omega) (by omega)) (out _ hlt.1 (by omega)), a3.2.1, a3.2.2.1.c C hlt.1, hv1⟩, ⟨a4.1.c C a13 (out _ (by omega) (by omega)) (out _ hlt.2 (by omega)), a4.2.1, a4.2.2.1.c C hlt.2, hv2⟩, a5, a6.c C a13 (fun a x1 x2 => out a (by omega) (by omega)), n7, n8, by rw [e1]; exact a9.c C a13 (fun a x1 x2 => out a (by omega) (by omega)), ⟨src, cnt, V, I, a10.c C a13 (fun a x1 x2 => out a (by omega) (by omega))⟩, n11, a12.c C a13 (fun a ha => out a (by omega) (by omega)), ⟨C.1.1, a13'.c C a17⟩, by rw [e0]; exact a14, ⟨a15, a16, by have := C.1.2.2; omega⟩, n18⟩, fun a z1 z2 => C.2.1 a (by omega) (out a (by omega) (by omega))⟩
theorem sp_find (hG : mv_ok G) (hX : mv_okX l G) (hT : mv_t G 0 ≠ mv_t G 1) (T : TP G h x y0 A nc ns) (hd : 80 ≤ d) : mv_rq l G mX12_find (d + 1) 0 (mv_in [.ref x] 1) [] h (fun o h1 => ansO (aFind A) o ∧ TP G h1 x y0 (aFind A).2.2 (nc + 820) (ns + 8400) ∧ oth h h1 x y0) := by
  obtain ⟨d, rfl⟩ : ∃ d', d = d' + 1 := ⟨d - 1, by omega⟩
  obtain ⟨cur, spa, v1, c1, v2, c2, q2, qp, T, m1, m2⟩ := T
  have hbnd := T.2.2.2.2.2.2.2.2.2.2.2.2.2.2.1
  have hw := T.2.2.2.2.2.2.2.2.2.2.2.2.1.1
  have hlt := T.lt
  have hcs := T.2.1
  have hbs : G.2.2.1 ≤ h.1 := by omega
  obtain ⟨K, fs, hc⟩ := T.doc
  have h40 := K.le
  have hc' := hc
  obtain ⟨⟨s, V, I, ka, kb, kc⟩, kd⟩ := id K
  have hv1 := T.2.2.1.2.2.2
  have hv2 := T.2.2.2.1.2.2.2
  -- nothing is there
  have none1 : aFind A = (1, 0, A) → mv_rq l G mX12_find (d + 2) 17 [none] [] h (fun o h1 => ansO (aFind A) o ∧ TP G h1 x y0 (aFind A).2.2 (nc + 820) (ns + 8400) ∧ oth h h1 x y0) := fun e => by
    rw [e]
    refine v_X12_find_17 hG hX (by omega) ?_
    unfold w_X12_find_17
    have C : chg G h (thr h) (fun _ => False) := chg.thr hw hbs
    obtain ⟨T1, O1⟩ := T.fd (A' := A) C (fun a _ z => z.elim) ⟨rfl, rfl, rfl⟩ T.2.2.2.2.2.2.1 T.2.2.2.2.2.2.2.1 (T.2.2.2.2.2.2.2.2.2.2.1.c C (fun a _ _ z => z.elim) (Or.inl rfl) (Or.inl rfl)) T.2.2.2.2.2.2.2.2.2.2.2.2.2.2.2
    refine ⟨Or.inr (Or.inl ⟨rfl, _, rfl⟩), ⟨cur, spa, v1, c1, v2, c2, q2, qp, T1, ?_, ?_⟩, O1⟩
    · show h.1 + 1 + _ + _ ≤ _; omega
    · show h.2.1 + 6 + _ + _ ≤ _; omega
  refine v_X12_find hG hX (by omega) ?_
  unfold w_X12_find
  refine vgb_of T.1 rfl (vgi_of ka.1 rfl (vif_of (fun k1 => ?_) (fun k1 => vgr_of T.1 rfl ?_)))
  · have k1' : (dOf A.2.1).1 = 0 := (nI_eq (b := 0) (by omega) (by omega)).mp k1
    refine none1 ?_
    cases hA : A.2.1 with
    | none => unfold aFind; rw [hA]
    | some t =>
      obtain ⟨t1, D, t2⟩ := kd t hA
      have e : dOf A.2.1 = D := by rw [hA]; unfold dOf; simp only [t2]
      have := (pD_dW t1 t2).2.1
      rw [e] at k1'
      omega
  · have hn0 : 0 < (dOf A.2.1).1 := by
      have : (dOf A.2.1).1 ≠ 0 := fun z => k1 (by rw [z]; rfl)
      omega
    obtain ⟨t, et, ht, hW, D0⟩ := K.dh hn0
    obtain ⟨_, D, eD⟩ := kd t et
    have eDo : dOf A.2.1 = D := by rw [et]; unfold dOf; simp only [eD]
    rcases T.2.2.2.2.2.2.2.2.2.2.1 with ⟨z1, z2⟩ | ⟨tq, dq, n, a, sg, qx, qy, z1, z2, z3, z4, z5, z6, z7, z8⟩
    · rw [z2]
      refine vnl_y (none1 ?_)
      unfold aFind; rw [z1, et]
    · subst z3
      refine ⟨fun z => (by cases z), fun a' ha' => ?_⟩
      cases ha'
      have eF : aFind A = fRes A (dq D 0) := by
        unfold aFind
        rw [et, z1]
        simp only [eD, z2]
      rw [eF]
      have hr0 := T.2.2.2.2.2.2.2.1
      refine vgb_of T.1 rfl (vob_of hr0.1 ((sp_rclear hG hr0 hw hbs).mono fun o1 h1 hq1 => ?_))
      obtain ⟨ho1, p1, f1⟩ := hq1
      have C1 : chg G h h1 (inR (x + 29)) := chg.k (ksT.of f1 hw (hr0.nt hT).1 (p1.nt hT).2) f1.1 f1.2.1 (fun a z1 z2 => f1.2.2.2.2.2.2 a z1 z2)
      have n1 : h1.1 = h.1 ∧ h1.2.1 = h.2.1 := by have := f1.2.2.1; have := f1.2.2.2.1; have := f1.2.2.2.2.1; have := f1.2.2.2.2.2.1; omega
      have no1 : ∀ a, (a < x + 29 ∨ x + 31 ≤ a) → ¬ inR (x + 29) a := fun a ha z => by rcases z with z | z <;> omega
      have Q1 : QK G h1 y0 v1 v2 A.2.2.1 (some a) := T.2.2.2.2.2.2.2.2.2.2.1.c C1 (fun a z1 z2 z => by rcases z with z | z <;> omega) (Or.inl rfl) (Or.inl rfl)
      obtain ⟨T1, O1⟩ := T.fd (A' := (A.1, A.2.1, A.2.2.1, [], A.2.2.2.2)) C1 (fun a _ z => Or.inl (by rcases z with z | z <;> omega)) ⟨rfl, rfl, rfl⟩ (T.2.2.2.2.2.2.1.c C1 hw (fun a z1 z2 => no1 a (by omega))) p1 Q1 (fun j hj => by (cases hj))
      obtain ⟨K1, fs1, hc1⟩ := T1.doc
      have w1 := C1.1.1
      obtain ⟨⟨A0, kk, g1⟩, ⟨gr, g2, g3⟩, g4⟩ := id T1.2.2.2.2.2.2.1
      obtain ⟨t', et', ht', hW', D1⟩ := K1.dh (n := 0) hn0
      have ett : t' = t := by
        have : A.2.1 = some t' := et'
        rw [et] at this
        cases this; rfl
      subst ett
      have P1 : KP G h1 qx qy a (dq, sg, n) := KP_fr.1 _ _ _ _ _ _ z4 (fun b x1 x2 => C1.2.1 b (by omega) (no1 b (by omega))) C1.2.2.1
      refine Or.inl ⟨ho1, vgb_of T1.1 rfl (vgb_of T1.1 rfl (vgb_of T1.1 rfl (vgr_of T1.1 rfl (vob_of g1 ?_))))⟩
      have D1' : DH G h1 cur t' D := by
        have := D1
        rw [show dOf ((A.1, A.2.1, A.2.2.1, ([] : List Nat), A.2.2.2.2) : aS).2.1 = D from eDo] at this
        exact this
      have hW'' : dW t' D := by rw [eDo] at hW; exact hW
      obtain ⟨zz, zl, zs⟩ := T1.2.2.2.2.2.2.2.2.2.2.2.1.2.2.2
      refine (sp_run (x := qx) (y := qy) (a := a) (f := x + 7) (A := cur) (t := t') (D := D) (p := (dq, sg, n)) hG hX hT hW'' (by omega) ⟨by omega, by omega⟩ g1 (fun h2 e2 => ?_) (by omega) P1).mono fun o2 h2 hq2 => ?_
      · rw [e2]
        have kt : ksT G h1 (mv_set h1 (x + 7) (.inr (5, [.ref (x + 7 + 1), .ref cur, .int 0]))) := ksT.set g1 (nTx_o (by decide))
        exact ⟨hs_s, ⟨gr, by rw [hs_n (by omega)]; exact g2, g3⟩, fun i hi => (g4 i hi).elim fun r hr => ⟨r, hr.fr (hs_n (by omega)) (hs_n (by omega))⟩, D1'.m (fun b x1 x2 => hs_n (by omega)) (fun s t z => kt.s z), ⟨mv_wf_set w1 g1, C1.1.2.1⟩, ⟨by omega, by omega⟩, zz, zl, kt.s zs⟩
      · have chgF : ∀ h', FX G h1 h' (x + 7) 0 qx qy → mv_wf h' → G.2.2.1 ≤ h'.1 → chg G h1 h' (fun b => (x + 7 ≤ b ∧ b < x + 29) ∨ (qx ≤ b ∧ b < qy)) := fun h' F w b => chg.k F.2.2 w b (fun c z1 z2 => F.2.1 c (by omega) (by omega) (by omega))
        have fr' : ∀ h' kk', FS G h' (x + 7) cur t' D kk' → FR G h' (x + 7) := fun h' kk' S => ⟨⟨_, _, S.1⟩, S.2.1, S.2.2.1⟩
        have qk' : ∀ h', h'.1 = h1.1 → KP G h' qx qy a (dq, sg, n) → QK G h' y0 v1 v2 A.2.2.1 (some a) := fun h' e P => Or.inr ⟨tq, dq, n, a, sg, qx, qy, z1, z2, rfl, P, z5, z6, by omega, z8⟩
        rcases hq2 with ⟨row, j, e1, e2, ⟨i, i1, i2, i3⟩, e4, e5, e6⟩ | ⟨e1, ⟨q, e2⟩, h', kk', e3, e4, e5, e6⟩
        · have C2 := chgF h2 e5 e4.w.1 e4.w.2
          have hr2 : hrw G h2 (x + 29) [] := p1.c C2 w1 (by omega) (by omega)
          obtain ⟨T2, O2⟩ := T1.fd (A' := (A.1, A.2.1, A.2.2.1, [], A.2.2.2.2)) C2 (fun b _ z => by rcases z with z | z; exact Or.inl (by omega); exact Or.inr (by omega)) ⟨rfl, rfl, rfl⟩ (fr' h2 _ e4) hr2 (qk' h2 e5.1.1 e6) (fun j hj => by (cases hj))
          have er : fRes A (dq D 0) = (0, nI row.length, (A.1, A.2.1, A.2.2.1, row, A.2.2.2.2)) := by
            have e1' : dq D 0 = some (row, j) := e1
            rw [e1']
            show (if j ≤ 1000000 then _ else _) = _
            rw [if_pos (by omega)]
          rw [er]
          refine Or.inl ⟨_, i2, vob_of hr2.1 ((sp_addAll (P := x + 29) (R := x + 7 + 2 + 2 * i) (row := row) hG hX (by omega) (by omega) hr2 i3.1 e4.w.1 e4.w.2).mono fun o3 h3 hq3 => ?_)⟩
          obtain ⟨ho3, p3, f3⟩ := hq3
          have C3 : chg G h2 h3 (inR (x + 29)) := chg.k (ksT.of f3 e4.w.1 (hr2.nt hT).1 (p3.nt hT).2) f3.1 f3.2.1 (fun a z1 z2 => f3.2.2.2.2.2.2 a z1 z2)
          have n3 : h3.1 = h2.1 ∧ h3.2.1 = h2.2.1 := by have := f3.2.2.1; have := f3.2.2.2.1; have := f3.2.2.2.2.1; have := f3.2.2.2.2.2.1; omega
          obtain ⟨T3, O3⟩ := T2.fd (A' := (A.1, A.2.1, A.2.2.1, row, A.2.2.2.2)) C3 (fun a _ z => Or.inl (by rcases z with z | z <;> omega)) ⟨rfl, rfl, rfl⟩ ((fr' h2 _ e4).c C3 e4.w.1 (fun a z1 z2 => no1 a (by omega))) p3 (T2.2.2.2.2.2.2.2.2.2.2.1.c C3 (fun a z1 z2 z => by rcases z with z | z <;> omega) (Or.inl rfl) (Or.inl rfl)) (fun j hj => by
            show j < (dOf A.2.1).1
            rw [eDo]; exact i3.2 j hj)
          refine Or.inl ⟨ho3, vgb_of T3.1 rfl (vgi_of p3.1 rfl ⟨Or.inl ⟨rfl, rfl⟩, ⟨cur, spa, v1, c1, v2, c2, q2, some a, T3, ?_, ?_⟩, fun b b1 b2 => (O3 b b1 b2).trans ((O2 b b1 b2).trans (O1 b b1 b2))⟩)⟩
          · have := e5.1.1; omega
          · have := e5.1.2; omega
        · have C2 : chg G h1 (thr h') (fun b => (x + 7 ≤ b ∧ b < x + 29) ∨ (qx ≤ b ∧ b < qy)) := (chgF h' e5 e4.w.1 e4.w.2).tr (chg.thr e4.w.1 e4.w.2)
          have hr2 : hrw G (thr h') (x + 29) [] := p1.c C2 w1 (by omega) (by omega)
          have qk2 : QK G (thr h') y0 v1 v2 A.2.2.1 (some a) := Or.inr ⟨tq, dq, n, a, sg, qx, qy, z1, z2, rfl, KP_fr.1 h' (thr h') _ _ _ _ e6 (fun _ _ _ => rfl) (fun s t z => z), z5, z6, by have := e5.1.1; show qy ≤ h'.1 + 1; omega, z8⟩
          obtain ⟨T2, O2⟩ := T1.fd (A' := (A.1, A.2.1, A.2.2.1, [], A.2.2.2.2)) C2 (fun b _ z => by rcases z with z | z; exact Or.inl (by omega); exact Or.inr (by omega)) ⟨rfl, rfl, rfl⟩ (fr' h' _ e4) hr2 qk2 (fun j hj => by (cases hj))
          have er : fRes A (dq D 0) = (2, 0, (A.1, A.2.1, A.2.2.1, [], A.2.2.2.2)) := by
            cases hz : dq D 0 with
            | none => rfl
            | some p =>
              obtain ⟨row, j⟩ := p
              have := e1 row j hz
              show (if j ≤ 1000000 then _ else _) = _
              rw [if_neg (by omega)]
          rw [er, e3]
          refine Or.inr ⟨_, e2, Or.inr (Or.inr ⟨rfl, _, rfl⟩), ⟨cur, spa, v1, c1, v2, c2, q2, some a, T2, ?_, ?_⟩, fun b b1 b2 => (O2 b b1 b2).trans (O1 b b1 b2)⟩
          · have := e5.1.1
            show h'.1 + 1 + _ + _ ≤ _
            omega
          · have := e5.1.2
            show h'.2.1 + 6 + _ + _ ≤ _
            omega
end TK
