section FK
variable {l : Launch} {G : mv_G} {d f A e dd : Nat} {t : List Nat} {D : dS} {lo : Option HV} {g : Nat → Nat}
/-- the row that a path ends with -/
abbrev VR (G : mv_G) (f : Nat) (D : dS) : List Nat → mv_O → mv_H → Prop := fun row o h1 => ∃ i : Nat, i < 10 ∧ o = .inl (some (.ref (f + 2 + 2 * i))) ∧ RO G h1 f D i row
theorem p68 {i ib a pa m0 m1 y x0 : Nat} {rb : List Nat} {rt cnt sgl : Int32} {fr0 la0 nx : Option Nat} {pre rest : List ((Bool × List dSel) × Bool)} {sg : (Bool × List dSel) × Bool} (hG : mv_ok G) (hX : mv_okX l G) (hT : mv_t G 0 ≠ mv_t G 1) (hW : dW t D) (hI : dI t g D) (hL : hLo G lo) (hO : LFo l G f A t D lo e dd) (hi : i < 10 ∧ 2 * e ≤ i ∧ i < 2 * (e + 1)) (hib : ib < 10 ∧ 2 * e ≤ ib ∧ ib < 2 * (e + 1) ∧ ib ≠ i) (he : e ≤ 4) (hd : dd + 6 ≤ d) (hd9 : 12 ≤ d) (hs : f + 22 ≤ x0 ∧ A + 83 ≤ x0) (hxa : x0 ≤ pa ∧ pa < y)
    (K55 : ∀ (h : mv_H) (row' : List Nat) (k : Nat), FS G h f A t D (nI k) → k ≤ 1000000 → RO G h f D i row' → h.2.2 pa = some (cPth rt fr0 la0 cnt sgl) → hLs (kSeg G lo) h (pre ++ [sg]) (pa + 1) m1 fr0 nx → hLs (kSeg G lo) h rest m1 y nx none → mv_rq l G mX3_follow (d + 1) 55 [some (.ref f), none, none, some (.int (nI e)), some (.ref (f + 2 + 2 * i)), some (.ref (f + 2 + 2 * ib)), some (va_rf nx), none] [] h (EV G h f A t D e x0 y (fun h1 => h1.2.2 pa = some (cPth rt fr0 la0 cnt sgl) ∧ hLs (kSeg G lo) h1 (pre ++ sg :: rest) (pa + 1) y fr0 none) k (pathR D (rest.map (·.1)) row') (VR G f D))) :
    ∀ (m j : Nat) (h : mv_H) (row : List Nat) (k : Nat), j + m = rb.length → FS G h f A t D (nI k) → k ≤ 1000000 → RO G h f D i row → RO G h f D ib rb → h.2.2 pa = some (cPth rt fr0 la0 cnt sgl) → hLs (kSeg G lo) h pre (pa + 1) m0 fr0 (some a) → m0 ≤ m1 → kSeg G lo h m0 m1 a (nx, sg) → hLs (kSeg G lo) h rest m1 y nx none →
    mv_rq l G mX3_follow (d + 1) 68 [some (.ref f), none, none, some (.int (nI e)), some (.ref (f + 2 + 2 * ib)), some (.ref (f + 2 + 2 * i)), some (va_rf (some a)), some (.int (nI j))] [] h (EV G h f A t D e x0 y (fun h1 => h1.2.2 pa = some (cPth rt fr0 la0 cnt sgl) ∧ hLs (kSeg G lo) h1 (pre ++ sg :: rest) (pa + 1) y fr0 none) k (eB (segR D sg.1 (rb.drop j) row) fun row' => pathR D (rest.map (·.1)) row') (VR G f D)) := by
  have hF := kSeg_fr (G := G) hL
  obtain ⟨d, rfl⟩ : ∃ d', d = d' + 1 := ⟨d - 1, by omega⟩
  intro m
  induction m with
  | zero =>
    intro j h row k hj H hk hr hb ha P0 hm E0 R0
    have hrl := hb.1.2.2.1
    refine v_X3_follow_68 hG ?_
    unfold w_X3_follow_68
    refine vgi_of hb.1.1 rfl (vif_y (nI_le (by omega) (by omega)) (vnn_of ?_))
    obtain ⟨_, _, fs1, g1, g2⟩ := kSeg_nx _ _ _ _ _ _ E0
    refine vgr_of g1 g2 ?_
    rw [List.drop_eq_nil_of_le (by omega)]
    show mv_rq _ _ _ _ _ _ _ _ (EV _ _ _ _ _ _ _ _ _ _ _ (eB (some (row, 0)) _) _)
    rw [eB_s]
    exact K55 h row k H hk hr ha (P0.app hF ⟨a, m1, nx, rfl, hm, E0, rfl, Nat.le_refl _⟩) R0
  | succ m ih =>
    intro j h row k hj H hk hr hb ha P0 hm E0 R0
    have hrl := hb.1.2.2.1
    have hp := P0.le
    have hrr := R0.le
    have hlt : j < rb.length := by omega
    have hnj : lk rb j < D.1 := hb.2 _ (lk_in hlt)
    obtain ⟨r1, ⟨fb, r2, r3⟩, _⟩ := id hb.1
    refine v_X3_follow_68 hG ?_
    unfold w_X3_follow_68
    refine vgi_of r1 rfl (vif_n (fun z => absurd ((nI_leI (by omega) (by omega)).mp z) (by omega)) (vgb_of r1 rfl (vai_of r2 rfl (show j < 300 by omega) (by omega) (vob_of H.1 ?_))))
    rw [r3 j hlt]
    have conv : ∀ h1, FX G h h1 f e m0 m1 → kSeg G lo h1 m0 m1 a (nx, sg) → h1.2.2 pa = some (cPth rt fr0 la0 cnt sgl) ∧ hLs (kSeg G lo) h1 pre (pa + 1) m0 fr0 (some a) ∧ hLs (kSeg G lo) h1 rest m1 y nx none := fun h1 F1 E1 =>
      ⟨by rw [F1.2.1 pa (by omega) (by omega) (by omega)]; exact ha, P0.fr hF (fun s t hs => F1.2.2.s hs) (fun q x1 x2 => F1.2.1 q (by omega) (by omega) (by omega)), R0.fr hF (fun s t hs => F1.2.2.s hs) (fun q x1 x2 => F1.2.1 q (by omega) (by omega) (by omega))⟩
    have eA : (eB (segR D sg.1 (rb.drop j) row) fun row' => pathR D (rest.map (·.1)) row') = eB (nodsR D sg.1.2 (if sg.1.1 = true then nAf D (lk rb j) - lk rb j else 1) (lk rb j) row) fun r1 => eB (segR D sg.1 (rb.drop (j + 1)) r1) fun row' => pathR D (rest.map (·.1)) row' := by
      rw [drop_lk hlt]
      show eB (eB (nodsR D sg.1.2 _ _ row) fun r1 => segR D sg.1 (rb.drop (j + 1)) r1) _ = _
      rw [eB_as]
    rw [eA]
    refine (sp_goFrom (rb := rb) hG hX hT hW hI hL hO hnj hi ⟨hib.2.2.1, hib.2.2.2⟩ he (by omega) (by omega) ⟨by omega, by omega⟩ H hk hr hb.1 E0).mono fun o h1 hq => ?_
    rcases hq with ⟨r1', jj, q1, q2, ⟨q3, q3'⟩, q4, q5, q6, q7⟩ | ⟨q1, ⟨q, q2⟩, h', kk', q3, q4, q5, q6, q7⟩
    · refine Or.inl ⟨q3, ?_⟩
      obtain ⟨c1, c2, c3⟩ := conv h1 q5 q6
      rw [nI_1]
      exact (ih (j + 1) h1 r1' (k + jj) (by omega) q4 q2 q3' ⟨q7, hb.2⟩ c1 c2 hm q6 c3).mono fun o2 h2 hq2 => EV.bind (g := fun r1 => eB (segR D sg.1 (rb.drop (j + 1)) r1) fun row' => pathR D (rest.map (·.1)) row') q1 (q5.mn (Nat.le_refl _) (by omega) (by omega)) hq2
    · obtain ⟨c1, c2, c3⟩ := conv h' q5 q6
      exact Or.inr ⟨_, q2, Or.inr ⟨q1.b1, ⟨_, rfl⟩, h', kk', q3, q4, q5.mn (Nat.le_refl _) (by omega) (by omega), c1, c2.app hF ⟨a, m1, nx, rfl, hm, q6, c3⟩⟩⟩
theorem p55 {pa y x0 : Nat} {rt cnt sgl : Int32} {fr0 la0 : Option Nat} {ss : List ((Bool × List dSel) × Bool)} (hG : mv_ok G) (hX : mv_okX l G) (hT : mv_t G 0 ≠ mv_t G 1) (hW : dW t D) (hI : dI t g D) (hL : hLo G lo) (hO : LFo l G f A t D lo e dd) (he : e ≤ 4) (hd : dd + 6 ≤ d) (hd9 : 12 ≤ d) (hs : f + 22 ≤ x0 ∧ A + 83 ≤ x0) (hxa : x0 ≤ pa ∧ pa < y) :
    ∀ (rest pre : List ((Bool × List dSel) × Bool)) (m0 i ib : Nat) (cur : Option Nat) (h : mv_H) (row : List Nat) (k : Nat), pre ++ rest = ss → (i < 10 ∧ 2 * e ≤ i ∧ i < 2 * (e + 1)) → (ib < 10 ∧ 2 * e ≤ ib ∧ ib < 2 * (e + 1) ∧ ib ≠ i) → FS G h f A t D (nI k) → k ≤ 1000000 → RO G h f D ib row → h.2.2 pa = some (cPth rt fr0 la0 cnt sgl) → hLs (kSeg G lo) h pre (pa + 1) m0 fr0 cur → hLs (kSeg G lo) h rest m0 y cur none →
    mv_rq l G mX3_follow (d + 1) 55 [some (.ref f), none, none, some (.int (nI e)), some (.ref (f + 2 + 2 * ib)), some (.ref (f + 2 + 2 * i)), some (va_rf cur), none] [] h (EV G h f A t D e x0 y (fun h1 => h1.2.2 pa = some (cPth rt fr0 la0 cnt sgl) ∧ hLs (kSeg G lo) h1 ss (pa + 1) y fr0 none) k (pathR D (rest.map (·.1)) row) (VR G f D)) := by
  have hF := kSeg_fr (G := G) hL
  intro rest
  induction rest with
  | nil =>
    intro pre m0 i ib cur h row k hpr hi hib H hk hb ha P0 R0
    obtain ⟨rfl, hle⟩ := R0
    rw [List.append_nil] at hpr
    subst hpr
    refine v_X3_follow_55 (u6 := none) hG ?_
    unfold w_X3_follow_55
    exact vnl_y (Or.inl ⟨row, 0, rfl, hk, ⟨ib, hib.1, rfl, hb⟩, H, FX.rf, ha, P0.mo hF (Nat.le_refl _) hle⟩)
  | cons sg rest ih =>
    intro pre m0 i ib cur h row k hpr hi hib H hk hb ha P0 R0
    obtain ⟨a, m1, nx, rfl, hm, E0, R1⟩ := R0
    have hp := P0.le
    have hrr := R1.le
    refine v_X3_follow_55 (u6 := some a) hG ?_
    unfold w_X3_follow_55
    refine ⟨fun z => (by cases z), fun b' hb' => ?_⟩
    cases hb'
    obtain ⟨ro, hro⟩ := H.2.2.1 i hi.1
    refine vob_of hro.1 ((sp_rclear hG hro H.w.1 H.w.2).mono fun o h1 hq => ?_)
    obtain ⟨q1, q2, q3⟩ := hq
    obtain ⟨S1, F1, R2⟩ := H.row hT hi.1 q3 hro q2
    have F1' := F1 e 0 0 hi.2.1
    have m' : ∀ s t, mv_str G h s t → mv_str G h1 s t := fun s t hs => F1'.2.2.s hs
    refine Or.inl ⟨q1, ?_⟩
    subst hpr
    have hp68 := p68 (l := l) (d := d) (i := i) (ib := ib) (a := a) (pa := pa) (m0 := m0) (m1 := m1) (y := y) (x0 := x0) (rb := row) (rt := rt) (cnt := cnt) (sgl := sgl) (fr0 := fr0) (la0 := la0) (nx := nx) (pre := pre) (rest := rest) (sg := sg) hG hX hT hW hI hL hO hi hib he hd hd9 hs hxa (fun h2 row' k' H2 hk2 hr2 ha2 P2 R2' => ih (pre ++ [sg]) m1 ib i nx h2 row' k' (by simp) ⟨hib.1, hib.2.1, hib.2.2.1⟩ ⟨hi.1, hi.2.1, hi.2.2, fun z => hib.2.2.2 z.symm⟩ H2 hk2 hr2 ha2 P2 R2')
    refine (hp68 row.length 0 h1 [] k (Nat.zero_add _) S1 hk ⟨q2, fun j hj => by (cases hj)⟩ ⟨R2 ib row hib.1 hib.2.2.2 hb.1, hb.2⟩ (by rw [F1'.2.1 pa (by omega) (by omega) (by omega)]; exact ha) (P0.fr hF m' (fun q x1 x2 => F1'.2.1 q (by omega) (by omega) (by omega))) hm (hF.1 _ _ _ _ _ _ E0 (fun q x1 x2 => F1'.2.1 q (by omega) (by omega) (by omega)) m') (R1.fr hF m' (fun q x1 x2 => F1'.2.1 q (by omega) (by omega) (by omega)))).mono fun o2 h2 hq2 => ?_
    have e1 : pathR D ((sg :: rest).map (·.1)) row = eB (segR D sg.1 (row.drop 0) []) fun row' => pathR D (rest.map (·.1)) row' := rfl
    rw [e1]
    rcases hq2 with ⟨c, i', e1, e2, e3, e4, e5, e6⟩ | ⟨e1, e2, h', kk, e3, e4, e5, e6⟩
    · exact Or.inl ⟨c, i', e1, e2, e3, e4, F1'.mn'.tr e5, e6⟩
    · exact Or.inr ⟨e1, e2, h', kk, e3, e4, F1'.mn'.tr e5, e6⟩
theorem sp_rbl {h : mv_H} {kk : Int32} (hG : mv_ok G) (hX : mv_okX l G) (he : e ≤ 4) (hd : 6 ≤ d) : mv_rq l G mX3_refuseBeyondLimit (d + 1) 0 (mv_in [.ref f, .int (nI e)] 2) [] h (fun o h1 => o = .inl none ∧ h = h1) := by
  refine v_X3_refuseBeyondLimit hG hX hd ?_
  unfold w_X3_refuseBeyondLimit
  exact vif_y ((nI_leI (b := 4) (by omega) (by omega)).mpr he) ⟨rfl, rfl⟩
/-- a path is followed -/
theorem sp_follow {n a x y k : Nat} {p : dPth × Bool × Nat} {h : mv_H} (hG : mv_ok G) (hX : mv_okX l G) (hT : mv_t G 0 ≠ mv_t G 1) (hW : dW t D) (hI : dI t g D) (hL : hLo G lo) (hO : LFo l G f A t D lo e dd) (hn : n < D.1) (he : e ≤ 4) (hd : dd + 6 ≤ d) (hd9 : 12 ≤ d) (hs : f + 22 ≤ x ∧ A + 83 ≤ x) (H : FS G h f A t D (nI k)) (hk : k ≤ 1000000) (P : kPth G lo h x y a p) :
    mv_rq l G mX3_follow (d + 1) 0 (mv_in [.ref f, .ref a, .int (nI n), .int (nI e)] 8) [] h (EV G h f A t D e x y (fun h1 => kPth G lo h1 x y a p) k (p.1 D n) (VR G f D)) := by
  have hF := kSeg_fr (G := G) hL
  obtain ⟨a1, a2, rt, fr, la, ss, b1, b2, b3⟩ := P
  obtain ⟨_, ⟨gr, g1, g2⟩, _⟩ := id H
  obtain ⟨r0, hr0⟩ := H.2.2.1 (2 * e) (by omega)
  obtain ⟨r1, hr1⟩ := H.2.2.1 (2 * e + 1) (by omega)
  have e2 : (2 : Int32) * nI e = nI (2 * e) := by
    have : ∀ q, q < 5 → (2 : Int32) * nI q = nI (2 * q) := by decide
    exact this e (by omega)
  obtain ⟨d, rfl⟩ : ∃ d', d = d' + 1 := ⟨d - 1, by omega⟩
  refine v_X3_follow hG ?_
  unfold w_X3_follow
  refine vob_of H.1 (vU_of (sp_rbl (kk := 0) hG hX he (by omega)) (vgb_of H.1 rfl ?_))
  rw [e2]
  refine vab_of g1 rfl (show 2 * e < 10 by omega) (by omega) (g2 _ (by omega)) (vgb_of H.1 rfl ?_)
  rw [nI_1]
  refine vab_of g1 rfl (show 2 * e + 1 < 10 by omega) (by omega) (g2 _ (by omega)) (vob_of hr0.1 ((sp_rclear hG hr0 H.w.1 H.w.2).mono fun o h1 hq => ?_))
  obtain ⟨q1, q2, q3⟩ := hq
  obtain ⟨S1, F1, R1⟩ := H.row hT (show 2 * e < 10 by omega) q3 hr0 q2
  have F1' := F1 e 0 0 (Nat.le_refl _)
  have b1' : h1.2.2 a = some (cPth (b2i rt) fr la (nI p.2.2) (b2i p.2.1)) := by rw [F1'.2.1 a (by omega) (by omega) (by omega)]; exact b1
  have b2' : hLs (kSeg G lo) h1 ss (a + 1) y fr none := b2.fr hF (fun s t hs => F1'.2.2.s hs) (fun q x1 x2 => F1'.2.1 q (by omega) (by omega) (by omega))
  refine Or.inl ⟨q1, vgi_of b1' rfl ?_⟩
  -- the first node, and then the segments
  have rest : ∀ n0 : Nat, n0 < D.1 → n0 = (if rt = true then 0 else n) → mv_rq l G mX3_follow (d + 2) 46 [some (.ref f), some (.ref a), none, some (.int (nI e)), some (.ref (f + 2 + 2 * (2 * e))), some (.ref (f + 2 + 2 * (2 * e + 1))), none, none] [.int (nI n0), .ref (f + 2 + 2 * (2 * e))] h1 (EV G h f A t D e x y (fun h1 => kPth G lo h1 x y a p) k (p.1 D n) (VR G f D)) := by
    intro n0 hn0 en0
    refine v_X3_follow_46 hG ?_
    unfold w_X3_follow_46
    refine vob_of q2.1 ((sp_fadd (row := []) hG hX hT S1 (show 2 * e < 10 by omega) ⟨q2, fun j hj => by (cases hj)⟩ hn0 (by omega)).mono fun o2 h2 hq2 => ?_)
    rcases hq2 with ⟨p1, p2, p3, p4, p5, p6⟩ | ⟨p1, _⟩
    · refine Or.inl ⟨p2, ?_⟩
      have F2 := p5 e 0 0 (Nat.le_refl _)
      have c1 : h2.2.2 a = some (cPth (b2i rt) fr la (nI p.2.2) (b2i p.2.1)) := by rw [F2.2.1 a (by omega) (by omega) (by omega)]; exact b1'
      have c2 : hLs (kSeg G lo) h2 ss (a + 1) y fr none := b2'.fr hF (fun s t hs => F2.2.2.s hs) (fun q x1 x2 => F2.2.1 q (by omega) (by omega) (by omega))
      refine vgr_of c1 rfl ?_
      refine (p55 (ss := ss) (x0 := x) hG hX hT hW hI hL hO he (by omega) (by omega) hs ⟨a1, a2⟩ ss [] (a + 1) (2 * e + 1) (2 * e) fr h2 [n0] k rfl ⟨by omega, by omega, by omega⟩ ⟨by omega, by omega, by omega, by omega⟩ p3 hk p4 c1 ⟨rfl, Nat.le_refl _⟩ c2).mono fun o3 h3 hq3 => ?_
      have ep : p.1 D n = pathR D (ss.map (·.1)) [n0] := by
        rw [b3, en0]; rfl
      rw [ep]
      rcases hq3 with ⟨c, i', e1, e2, e3, e4, e5, e6, e7⟩ | ⟨e1, e2, h', kk, e3, e4, e5, e6, e7⟩
      · exact Or.inl ⟨c, i', e1, e2, e3, e4, (F1'.tr F2).mn'.tr e5, ⟨a1, a2, rt, fr, la, ss, e6, e7, b3⟩⟩
      · exact Or.inr ⟨e1, e2, h', kk, e3, e4, (F1'.tr F2).mn'.tr e5, ⟨a1, a2, rt, fr, la, ss, e6, e7, b3⟩⟩
    · exact absurd p1 (by simp [addR])
  have e3 : f + 2 + 2 * (2 * e) = f + 2 + 2 * (2 * e) := rfl
  cases rt with
  | true => exact vif_n (by decide) (rest 0 (by omega) (by rw [if_pos rfl]))
  | false => exact vif_y rfl (rest n hn (by rw [if_neg (by decide)]))
end FK
