/-! the finder: segments -/
def nod0 (D : dS) (ss : List dSel) : Nat → Nat → List Nat → eR (List Nat)
  | 0, _, row => some (row, 0)
  | m + 1, n, row => eB (selsR D n ss row) fun row' => nod0 D ss m (n + 1) row'
theorem eB_cm {α β : Type} {x : eR α} {m : Nat} {g : α → eR β} : (eB x fun a => eB (some ((), m)) fun _ => g a) = eB (some ((), m)) fun _ => eB x g := by
  cases x with
  | none => rfl
  | some p =>
    obtain ⟨a, i⟩ := p
    simp only [eB]
    cases g a with
    | none => rfl
    | some q =>
      obtain ⟨b, j⟩ := q
      simp only [Option.some.injEq, Prod.mk.injEq, true_and]
      omega
theorem nodsR_0 {D : dS} {ss : List dSel} : ∀ {m n : Nat} {row : List Nat}, nodsR D ss m n row = eB (some ((), m)) fun _ => nod0 D ss m n row := by
  intro m
  induction m with
  | zero => intro n row; rfl
  | succ m ih =>
    intro n row
    show (eB (some ((), 1)) fun _ => eB (selsR D n ss row) fun row' => nodsR D ss m (n + 1) row') = _
    have e1 : (fun row' => nodsR D ss m (n + 1) row') = (fun row' => eB (some ((), m)) fun _ => nod0 D ss m (n + 1) row') := by funext row'; exact ih
    rw [e1, eB_cm]
    show _ = eB (some ((), m + 1)) fun _ => eB (selsR D n ss row) fun row' => nod0 D ss m (n + 1) row'
    cases (eB (selsR D n ss row) fun row' => nod0 D ss m (n + 1) row') with
    | none => rfl
    | some q =>
      obtain ⟨b, j⟩ := q
      simp only [eB, Option.some.injEq, Prod.mk.injEq, true_and]
      omega
section FJ
variable {l : Launch} {G : mv_G} {d f A e dd : Nat} {t : List Nat} {D : dS} {lo : Option HV} {g : Nat → Nat}
/-- the steps are counted -/
theorem FS.stp {h : mv_H} {kk kk' : Int32} (H : FS G h f A t D kk) : FS G (mv_set h f (.inr (5, [.ref (f + 1), .ref A, .int kk']))) f A t D kk' ∧ FX G h (mv_set h f (.inr (5, [.ref (f + 1), .ref A, .int kk']))) f e 0 0 ∧ ∀ j r, hrw G h (f + 2 + 2 * j) r → hrw G (mv_set h f (.inr (5, [.ref (f + 1), .ref A, .int kk']))) (f + 2 + 2 * j) r := by
  obtain ⟨a1, ⟨g, a2, a3⟩, a4, a5, a6, a7, z, a8, a9⟩ := H
  have kt : ksT G h (mv_set h f (.inr (5, [.ref (f + 1), .ref A, .int kk']))) := ksT.set a1 (nTx_o (by decide))
  have rw1 : ∀ j r, hrw G h (f + 2 + 2 * j) r → hrw G (mv_set h f (.inr (5, [.ref (f + 1), .ref A, .int kk']))) (f + 2 + 2 * j) r := fun j r hr => hr.fr (hs_n (by omega)) (hs_n (by omega))
  exact ⟨⟨hs_s, ⟨g, by rw [hs_n (by omega)]; exact a2, a3⟩, fun i hi => (a4 i hi).elim fun r hr => ⟨r, rw1 i r hr⟩, a5.m (fun q x1 x2 => hs_n (by omega)) (fun s t hs => kt.s hs), ⟨mv_wf_set a6.1 a1, a6.2⟩, a7, z, a8, kt.s a9⟩, ⟨⟨rfl, rfl⟩, fun q q1 _ _ => hs_n q1, kt⟩, rw1⟩
/-- the selectors of a segment, at one node -/
theorem p75 {n m i ib a y E : Nat} {rb : List Nat} {bw : Int32} {fr0 la0 nx0 : Option Nat} {ss : List (dSel × Bool)} {x0 : Nat} (hG : mv_ok G) (hX : mv_okX l G) (hT : mv_t G 0 ≠ mv_t G 1) (hI : dI t g D) (hL : hLo G lo) (hO : LFo l G f A t D lo e dd) (hn : n < D.1) (hi : i < 10 ∧ 2 * e ≤ i ∧ i < 2 * (e + 1)) (hib : ib < 2 * (e + 1) ∧ ib ≠ i) (he : e ≤ 4) (hd : dd + 5 ≤ d) (hd9 : 11 ≤ d) (hs : f + 22 ≤ x0 ∧ A + 83 ≤ x0) (hxa : x0 ≤ a ∧ a < y)
    (h62 : ∀ (h : mv_H) (row : List Nat) (k : Nat), FS G h f A t D (nI k) → k ≤ 1000000 → RO G h f D i row → hrw G h (f + 2 + 2 * ib) rb → h.2.2 a = some (cSeg bw fr0 la0 nx0) → hLs (kSel G lo) h ss (a + 1) y fr0 none → mv_rq l G mX3_goFrom (d + 1) 62 [some (.ref f), none, some (.ref a), some (.ref (f + 2 + 2 * i)), some (.int (nI e)), some (.int (nI E)), some (.int (nI (n + 1))), none] [] h (EV G h f A t D e x0 y (fun h1 => (h1.2.2 a = some (cSeg bw fr0 la0 nx0) ∧ hLs (kSel G lo) h1 ss (a + 1) y fr0 none) ∧ hrw G h1 (f + 2 + 2 * ib) rb) k (nod0 D (ss.map (·.1)) m (n + 1) row) (fun row' o h1 => o = .inl none ∧ RO G h1 f D i row'))) :
    ∀ (rest pre : List (dSel × Bool)) (m0 : Nat) (cur : Option Nat) (h : mv_H) (row : List Nat) (k : Nat), pre ++ rest = ss → FS G h f A t D (nI k) → k ≤ 1000000 → RO G h f D i row → hrw G h (f + 2 + 2 * ib) rb → h.2.2 a = some (cSeg bw fr0 la0 nx0) → hLs (kSel G lo) h pre (a + 1) m0 fr0 cur → hLs (kSel G lo) h rest m0 y cur none →
    mv_rq l G mX3_goFrom (d + 1) 75 [some (.ref f), none, some (.ref a), some (.ref (f + 2 + 2 * i)), some (.int (nI e)), some (.int (nI E)), some (.int (nI n)), some (va_rf cur)] [] h (EV G h f A t D e x0 y (fun h1 => (h1.2.2 a = some (cSeg bw fr0 la0 nx0) ∧ hLs (kSel G lo) h1 ss (a + 1) y fr0 none) ∧ hrw G h1 (f + 2 + 2 * ib) rb) k (eB (selsR D n (rest.map (·.1)) row) fun row' => nod0 D (ss.map (·.1)) m (n + 1) row') (fun row' o h1 => o = .inl none ∧ RO G h1 f D i row')) := by
  have hF := kSel_fr (G := G) hL
  obtain ⟨d, rfl⟩ : ∃ d', d = d' + 1 := ⟨d - 1, by omega⟩
  intro rest
  induction rest with
  | nil =>
    intro pre m0 cur h row k hpr H hk hr hb ha P0 R0
    obtain ⟨rfl, hle⟩ := R0
    rw [List.append_nil] at hpr
    subst hpr
    refine v_X3_goFrom_75 (u7 := none) hG hX (by omega) ?_
    unfold w_X3_goFrom_75
    refine vnl_y ?_
    rw [nI_1]
    show mv_rq _ _ _ _ _ _ _ _ (EV _ _ _ _ _ _ _ _ _ _ _ (eB (some (row, 0)) _) _)
    rw [eB_s]
    exact h62 h row k H hk hr hb ha (P0.mo hF (Nat.le_refl _) hle)
  | cons sd rest ih =>
    intro pre m0 cur h row k hpr H hk hr hb ha P0 R0
    obtain ⟨b, m1, nx, rfl, hm, E0, R1⟩ := R0
    have hp := P0.le
    have hrr := R1.le
    refine v_X3_goFrom_75 (u7 := some b) hG hX (by omega) ?_
    unfold w_X3_goFrom_75
    refine ⟨fun z => (by cases z), fun b' hb' => ?_⟩
    cases hb'
    have conv : ∀ h1, FX G h h1 f e m0 m1 → kSel G lo h1 m0 m1 b (nx, sd) → h1.2.2 a = some (cSeg bw fr0 la0 nx0) ∧ hLs (kSel G lo) h1 (pre ++ [sd]) (a + 1) m1 fr0 nx ∧ hLs (kSel G lo) h1 rest m1 y nx none := fun h1 F1 E1 =>
      ⟨by rw [F1.2.1 a (by omega) (by omega) (by omega)]; exact ha, (P0.fr hF (fun s t hs => F1.2.2.s hs) (fun q x1 x2 => F1.2.1 q (by omega) (by omega) (by omega))).app hF ⟨b, m1, nx, rfl, hm, E1, rfl, Nat.le_refl _⟩, R1.fr hF (fun s t hs => F1.2.2.s hs) (fun q x1 x2 => F1.2.1 q (by omega) (by omega) (by omega))⟩
    have hpr2 : pre ++ [sd] ++ rest = ss := by rw [← hpr]; simp
    have eA : (eB (selsR D n ((sd :: rest).map (·.1)) row) fun row' => nod0 D (ss.map (·.1)) m (n + 1) row') = eB (sd.1 D n row) fun r1 => eB (selsR D n (rest.map (·.1)) r1) fun row' => nod0 D (ss.map (·.1)) m (n + 1) row' := by
      show eB (eB (sd.1 D n row) fun r1 => selsR D n (rest.map (·.1)) r1) _ = _
      rw [eB_as]
    rw [eA]
    refine vob_of H.1 ((sp_select hG hX hT hI hL hO hn hi hib he (by omega) (by omega) ⟨by omega, by omega⟩ H hk hr hb E0).mono fun o h1 hq => ?_)
    rcases hq with ⟨r1, j, q1, q2, ⟨q3, q3'⟩, q4, q5, q6, q7⟩ | ⟨q1, ⟨q, q2⟩, h', kk', q3, q4, q5, q6, q7⟩
    · refine Or.inl ⟨q3, ?_⟩
      obtain ⟨c1, c2, c3⟩ := conv h1 q5 q6
      obtain ⟨_, _, fs1, g1, g2⟩ := kSel_nx _ _ _ _ _ _ q6
      refine vgr_of g1 g2 ?_
      exact (ih (pre ++ [sd]) m1 nx h1 r1 (k + j) hpr2 q4 q2 q3' q7 c1 c2 c3).mono fun o2 h2 hq2 => EV.bind (g := fun r1 => eB (selsR D n (rest.map (·.1)) r1) fun row' => nod0 D (ss.map (·.1)) m (n + 1) row') q1 (q5.mn (Nat.le_refl _) (by omega) (by omega)) hq2
    · obtain ⟨c1, c2, c3⟩ := conv h' q5 q6
      refine Or.inr ⟨_, q2, Or.inr ⟨q1.b1, ⟨_, rfl⟩, h', kk', q3, q4, q5.mn (Nat.le_refl _) (by omega) (by omega), ⟨c1, ?_⟩, q7⟩⟩
      rw [← hpr2]
      exact c2.app hF c3
theorem p62 {i ib a y E : Nat} {rb : List Nat} {bw : Int32} {fr0 la0 nx0 : Option Nat} {ss : List (dSel × Bool)} {x0 : Nat} (hG : mv_ok G) (hX : mv_okX l G) (hT : mv_t G 0 ≠ mv_t G 1) (hI : dI t g D) (hL : hLo G lo) (hO : LFo l G f A t D lo e dd) (hE : E ≤ D.1) (hi : i < 10 ∧ 2 * e ≤ i ∧ i < 2 * (e + 1)) (hib : ib < 2 * (e + 1) ∧ ib ≠ i) (he : e ≤ 4) (hd : dd + 5 ≤ d) (hd9 : 11 ≤ d) (hs : f + 22 ≤ x0 ∧ A + 83 ≤ x0) (hxa : x0 ≤ a ∧ a < y) :
    ∀ (m n : Nat) (h : mv_H) (row : List Nat) (k : Nat), n + m = E → FS G h f A t D (nI k) → k ≤ 1000000 → RO G h f D i row → hrw G h (f + 2 + 2 * ib) rb → h.2.2 a = some (cSeg bw fr0 la0 nx0) → hLs (kSel G lo) h ss (a + 1) y fr0 none → mv_rq l G mX3_goFrom (d + 1) 62 [some (.ref f), none, some (.ref a), some (.ref (f + 2 + 2 * i)), some (.int (nI e)), some (.int (nI E)), some (.int (nI n)), none] [] h (EV G h f A t D e x0 y (fun h1 => (h1.2.2 a = some (cSeg bw fr0 la0 nx0) ∧ hLs (kSel G lo) h1 ss (a + 1) y fr0 none) ∧ hrw G h1 (f + 2 + 2 * ib) rb) k (nod0 D (ss.map (·.1)) m n row) (fun row' o h1 => o = .inl none ∧ RO G h1 f D i row')) := by
  have h40 := hI.1.1
  intro m
  induction m with
  | zero =>
    intro n h row k hnm H hk hr hb ha S
    refine v_X3_goFrom_62 hG hX (by omega) ?_
    unfold w_X3_goFrom_62
    exact vif_y (nI_le (by omega) (by omega)) (Or.inl ⟨row, 0, rfl, hk, ⟨rfl, hr⟩, H, FX.rf, ⟨ha, S⟩, hb⟩)
  | succ m ih =>
    intro n h row k hnm H hk hr hb ha S
    refine v_X3_goFrom_62 hG hX (by omega) ?_
    unfold w_X3_goFrom_62
    refine vif_n (fun z => absurd ((nI_leI (by omega) (by omega)).mp z) (by omega)) (vgr_of ha rfl ?_)
    exact p75 hG hX hT hI hL hO (by omega) hi hib he hd hd9 hs hxa (fun h row k H hk hr hb ha S => ih (n + 1) h row k (by omega) H hk hr hb ha S) ss [] (a + 1) fr0 h row k rfl H hk hr hb ha ⟨rfl, Nat.le_refl _⟩ S
/-- a segment goes from a node -/
theorem sp_goFrom {n i ib a x y k : Nat} {rb row : List Nat} {nx : Option Nat} {sg : (Bool × List dSel) × Bool} {h : mv_H} (hG : mv_ok G) (hX : mv_okX l G) (hT : mv_t G 0 ≠ mv_t G 1) (hW : dW t D) (hI : dI t g D) (hL : hLo G lo) (hO : LFo l G f A t D lo e dd) (hn : n < D.1) (hi : i < 10 ∧ 2 * e ≤ i ∧ i < 2 * (e + 1)) (hib : ib < 2 * (e + 1) ∧ ib ≠ i) (he : e ≤ 4) (hd : dd + 5 ≤ d) (hd9 : 11 ≤ d) (hs : f + 22 ≤ x ∧ A + 83 ≤ x) (H : FS G h f A t D (nI k)) (hk : k ≤ 1000000) (hr : RO G h f D i row) (hb : hrw G h (f + 2 + 2 * ib) rb) (P : kSeg G lo h x y a (nx, sg)) :
    mv_rq l G mX3_goFrom (d + 1) 0 (mv_in [.ref f, .int (nI n), .ref a, .ref (f + 2 + 2 * i), .int (nI e)] 8) [] h (EV G h f A t D e x y (fun h1 => kSeg G lo h1 x y a (nx, sg) ∧ hrw G h1 (f + 2 + 2 * ib) rb) k (nodsR D sg.1.2 (if sg.1.1 = true then nAf D n - n else 1) n row) (fun row' o h1 => o = .inl none ∧ RO G h1 f D i row')) := by
  have h40 := hI.1.1
  have hF := kSel_fr (G := G) hL
  have hSF := kSeg_fr (G := G) hL
  obtain ⟨a1, a2, fr, la, ss, b1, b2, b3, b4⟩ := id P
  have b3' : sg.1.2 = ss.map (·.1) := b3
  -- behind the end
  have fin : ∀ E : Nat, n < E → E ≤ D.1 → mv_rq l G mX3_goFrom (d + 1) 25 [some (.ref f), some (.int (nI n)), some (.ref a), some (.ref (f + 2 + 2 * i)), some (.int (nI e)), none, none, none] [.int (nI E)] h (EV G h f A t D e x y (fun h1 => kSeg G lo h1 x y a (nx, sg) ∧ hrw G h1 (f + 2 + 2 * ib) rb) k (nodsR D sg.1.2 (E - n) n row) (fun row' o h1 => o = .inl none ∧ RO G h1 f D i row')) := by
    intro E hE1 hE2
    have est : nI k + (nI E - nI n) = nI (k + (E - n)) := by
      rw [show nI E = nI (E - n + n) by congr 1; omega, ← nI_add, Int32.add_sub_cancel, nI_add]
    refine v_X3_goFrom_25 hG hX (by omega) ?_
    unfold w_X3_goFrom_25
    refine vgi_of H.1 rfl (vpu_of H.1 H.2.2.2.2.2.1.2 (show 2 < 3 by decide) rfl ?_)
    rw [est]
    obtain ⟨S1, F1, R1⟩ := H.stp (e := e) (kk' := nI (k + (E - n)))
    rw [show [Value.ref (f + 1), Value.ref A, Value.int (nI k)].set 2 (.int (nI (k + (E - n)))) = [Value.ref (f + 1), Value.ref A, Value.int (nI (k + (E - n)))] from rfl]
    generalize mv_set h f (.inr (5, [.ref (f + 1), .ref A, .int (nI (k + (E - n)))])) = h1 at S1 F1 R1
    have P1 : kSeg G lo h1 x y a (nx, sg) := hSF.fx P F1 (by omega) hs.1
    have hb1 := R1 ib rb hb
    refine vgi_of S1.1 rfl (vif_of (fun c => ?_) (fun c => ?_))
    · have c' : k + (E - n) ≤ 1000000 := (nI_leI (b := 1000000) (by omega) (by omega)).mp c
      obtain ⟨a1', a2', fr', la', ss', b1', b2', b3'', b4'⟩ := id P1
      have e3 : sg.1.2 = ss'.map (·.1) := b3''
      refine (p62 hG hX hT hI hL hO hE2 hi hib he hd hd9 hs ⟨a1', a2'⟩ (E - n) n h1 row (k + (E - n)) (by omega) S1 c' ⟨R1 i row hr.1, hr.2⟩ hb1 b1' b2').mono fun o2 h2 hq2 => ?_
      rw [nodsR_0, e3]
      refine EV.bind (b := ()) (j := E - n) rfl F1.mn' (hq2.mn (Nat.le_refl _) (Nat.le_refl _) (Nat.le_refl _) (fun h3 F3 Q3 => ⟨⟨a1', a2', fr', la', ss', Q3.1.1, Q3.1.2, b3'', b4'⟩, Q3.2⟩) (fun _ _ _ V => V))
    · have c' : ¬ k + (E - n) ≤ 1000000 := fun z => c ((nI_leI (b := 1000000) (by omega) (by omega)).mpr z)
      refine Or.inr ⟨?_, ⟨_, rfl⟩, h1, _, rfl, S1, F1.mn', P1, hb1⟩
      rw [nodsR_0]
      exact bad.b1 (fun b j hz => by cases hz; omega)
  refine v_X3_goFrom hG hX (by omega) ?_
  unfold w_X3_goFrom
  refine vgi_of b1 rfl ?_
  show vif (b2i sg.1.1 = 0) _ _
  cases hbw : sg.1.1 with
  | false =>
    refine vif_y rfl ?_
    rw [if_neg (by decide), nI_1]
    have := fin (n + 1) (by omega) (by omega)
    rw [show n + 1 - n = 1 by omega] at this
    exact this
  | true =>
    obtain ⟨w, w0, w1, w2, w3, w4, w5, w6, w7, w8, w9⟩ := H.dh.vl hn h40
    obtain ⟨en, af, hf⟩ : ∃ en a, nfi (D.2 n) = some (en, a) := by
      cases e : nfi (D.2 n) with
      | none => exact absurd e (hW.2.2 n hn).1
      | some p => exact ⟨p.1, p.2, rfl⟩
    have haf : nAf D n = af := by unfold nAf; rw [hf]; rfl
    have hx6 := hI.2.2.2.2.2.1 n en af hn hf
    refine vif_n (by decide) (H.doc (H.dh.nd (show n < 40 by omega) rfl (vgi_of w0 rfl ?_)))
    rw [(w8 en af hf).2, if_pos rfl, haf]
    exact fin af hx6.1 hx6.2.1
end FJ
