section KQ
variable {l : Launch} {G : mv_G} {d x : Nat} {h : mv_H}
theorem gwn.hdc {A src y k s : Nat} {cnt : Int32} {V : Nat → vF} {I : Nat → Nat → Int32} {h1 : mv_H} (g : gwn h h1 y k s) (H : hdc G h A src cnt V I) (hw : mv_wf h) (n : y < A ∨ A + 83 ≤ y) : hdc G h1 A src cnt V I := by
  have := H.top hw
  exact H.fr fun a x1 x2 => g.2.2.2.1 a (by omega) (by omega)
theorem gwn.sb {b v y k s cap : Nat} {t : List Nat} {h1 : mv_H} (g : gwn h h1 y k s) (H : mv_sb G h b v cap t) (hw : mv_wf h) (n1 : b ≠ y) (n2 : v ≠ y) : mv_sb G h1 b v cap t := by
  obtain ⟨f, mb, s1, s2, s3⟩ := H
  exact ⟨f, mb, g.at hw s1 n1, g.at hw s2 n2, s3⟩
theorem gwn.FR {f y k s : Nat} {h1 : mv_H} (g : gwn h h1 y k s) (H : FR G h f) (hw : mv_wf h) (n : y < f ∨ f + 22 ≤ y) : FR G h1 f := by
  obtain ⟨⟨A0, kk, a⟩, ⟨g', b, c⟩, d⟩ := H
  exact ⟨⟨A0, kk, g.at hw a (by omega)⟩, ⟨g', g.at hw b (by omega), c⟩, fun i hi => (d i hi).elim fun r hr => ⟨r, hr.g g hw (by omega) (by omega)⟩⟩
theorem gwn.chg {y k s : Nat} {h1 : mv_H} {ci : Nat} {fs : List Value} (g : gwn h h1 y k s) (hw : mv_wf h) (hb : G.2.2.1 ≤ h.1) (hy : h.2.2 y = some (.inr (ci, fs))) (hc : ci ≠ 0) : chg G h h1 (fun a => a = y) := by
  refine ⟨⟨g.1, by have := g.2.1; omega, by have := g.2.1; omega⟩, g.2.2.2.1, fun s t z => ?_, fun a q x z => Or.inl (g.2.2.2.2 a _ z)⟩
  obtain ⟨q, u, w, f, a1, a2, a3⟩ := z
  refine ⟨q, u, w, f, g.at hw a1 (fun z => ?_), g.at hw a2 (fun z => ?_), a3⟩
  · subst z
    rw [hy] at a1
    cases a1
    exact hc rfl
  · subst z
    rw [hy] at a2
    cases a2
theorem stp {hi : mv_H} {M : mv_M} {x K S n ci k s i w : Nat} {fs fs' e0 : List Value} {P : mv_H → Prop} {X : String × Nat → mv_H → Prop} {R : mv_H → Prop} (H : gwn h hi x K S) (hh : h.1 = x + 1) (hb : G.2.2.1 ≤ x) (hc : ci ≠ 0) (hxi : hi.2.2 x = some (.inr (14, fs))) (hl : i < fs.length) (hfs : fs.set i (.ref hi.1) = fs')
    (sp : mv_rq l G M d 0 (mv_in [.ref hi.1] w) [] (mv_new hi n (.inr (ci, e0))) (fun o h1 => o = .inl none ∧ P h1 ∧ gwn (mv_new hi n (.inr (ci, e0))) h1 hi.1 k s))
    (kk : ∀ h1 h2, P h1 → mv_wf h1 → gwn h1 h2 x 0 0 → h2.2.2 x = some (.inr (14, fs')) → gwn h h2 x (K + (1 + k)) (S + (n + s)) → gwn hi h2 x (1 + k) (n + s) → R h2) : vnw hi n (.inr (ci, e0)) fun a h5 => mv_rq l G M d 0 (mv_in [.ref a] w) [] h5 (vU X (fun h9 => vpu G h9 x 14 i (.ref a) R)) := by
  refine vnw_of (sp.mono fun o h1 q => Or.inl ⟨q.1, ?_⟩)
  obtain ⟨_, q1, q2⟩ := q
  have hw := H.1
  have hl0 := H.2.1
  have g1 : gwn hi (mv_new hi n (.inr (ci, e0))) x 1 n := gwn.new hw hc
  have g2 := g1.tr q2 (Or.inr (Nat.le_refl _))
  have o1 : h1.2.2 x = some (.inr (14, fs)) := by
    refine q2.at g1.1 ?_ (by omega)
    rw [nw_n (by omega)]
    exact hxi
  have g3 : gwn h1 (mv_set h1 x (.inr (14, fs'))) x 0 0 := gwn.set q2.1 o1 (by decide)
  have g4 := g2.tr g3 (Or.inl rfl)
  exact vpu_of o1 hb hl hfs (kk h1 _ q1 q2.1 g3 hs_s (H.tr g4 (Or.inl rfl)) g4)
/-- a new object -/
theorem sp_i12 (hG : mv_ok G) (hL : lE G h) (hw : mv_wf h) (hx : h.2.2 x = some (.inr (14, [.null, .null, .null, .null, .null, .null, .null, .null, .null, .int 0]))) (hs : ∀ (a q : Nat) (y : List Value), h.2.2 a = some (.inr (0, .ref q :: y)) → q < x) (hb : G.2.2.1 ≤ x) (hh : h.1 = x + 1) (hd : 3 ≤ d) : mv_rq l G mX12_init (d + 1) 0 (mv_in [.ref x] 1) [] h (fun o h1 => o = .inl none ∧ TPx G h1 x (x + 199) A0 (x + 33) (x + 116) (x + 2) 16 (x + 32) 16 [] none ∧ gwn h h1 x 198 7553) := by
  obtain ⟨d, rfl⟩ : ∃ d', d = d' + 2 := ⟨d - 2, by omega⟩
  obtain ⟨z0, hz0⟩ : ∃ z, mv_lt G RX0 9 "" z := by
    obtain ⟨⟨_, ⟨z0, _, _, _, ⟨q, _⟩, _⟩, _⟩, _⟩ := hL
    exact ⟨z0, q⟩
  obtain ⟨z1, hz1⟩ : ∃ z, mv_lt G RX1 22 "" z := by
    obtain ⟨⟨_, _, ⟨z0, q, _⟩, _⟩, _⟩ := hL
    exact ⟨z0, q⟩
  obtain ⟨z2, hz2⟩ : ∃ z, mv_lt G RX11 18 "" z := by
    obtain ⟨_, ⟨_, _, _, ⟨z0, q, _⟩, _⟩, _⟩ := hL
    exact ⟨z0, q⟩
  refine v_X12_init hG ?_
  unfold w_X12_init
  refine stp (gwn.rf hw) hh hb (by decide) hx (show 0 < 10 by omega) (by rw [hh]) (sp_iB hG (mv_wf_new hw) nw_s (by omega) rfl (by omega)) fun h1 h2 p1 w1 g1 x1 G1 g1' => ?_
  rw [hh] at p1
  have B1 := g1.sb p1 w1 (by omega) (by omega)
  have c1 := G1.2.1
  have e1 : h2.1 = x + 3 := by omega
  clear p1 w1 g1 g1' c1 h1
  refine stp G1 hh hb (by decide) x1 (show 1 < 10 by omega) (by rw [e1]) (sp_i2 hG hz0 (mv_wf_new G1.1) nw_s (by omega) rfl (by omega)) fun h3 h4 p2 w2 g2 x2 G2 g2' => ?_
  rw [e1] at p2
  have D1 := g2.at w2 p2.1 (by omega)
  have D2 := g2.at w2 p2.2 (by omega)
  replace B1 := g2'.sb B1 G1.1 (by omega) (by omega)
  have e2 : h4.1 = x + 5 := by have := g2'.2.1; omega
  clear p2 w2 g2 g2' x1 e1 G1 h2 h3
  refine stp G2 hh hb (by decide) x2 (show 2 < 10 by omega) (by rw [e2]) (sp_i5 hG hz0 (mv_wf_new G2.1) nw_s (by omega) rfl (by omega)) fun h3 h5 p3 w3 g3 x3 G3 g3' => ?_
  rw [e2] at p3
  have Q1 := g3.at w3 p3.1 (by omega)
  have Q2 := g3.at w3 p3.2 (by omega)
  replace B1 := g3'.sb B1 G2.1 (by omega) (by omega)
  replace D1 := g3'.at G2.1 D1 (by omega)
  replace D2 := g3'.at G2.1 D2 (by omega)
  have e3 : h5.1 = x + 7 := by have := g3'.2.1; omega
  clear p3 w3 g3 g3' x2 e2 G2 h3 h4
  refine stp G3 hh hb (by decide) x3 (show 3 < 10 by omega) (by rw [e3]) (sp_i3 hG (mv_wf_new G3.1) nw_s (by omega) rfl (by omega)) fun h3 h6 p4 w4 g4 x4 G4 g4' => ?_
  rw [e3] at p4
  have F1 := g4.FR p4 w4 (by omega)
  replace B1 := g4'.sb B1 G3.1 (by omega) (by omega)
  replace D1 := g4'.at G3.1 D1 (by omega)
  replace D2 := g4'.at G3.1 D2 (by omega)
  replace Q1 := g4'.at G3.1 Q1 (by omega)
  replace Q2 := g4'.at G3.1 Q2 (by omega)
  have e4 : h6.1 = x + 29 := by have := g4'.2.1; omega
  clear p4 w4 g4 g4' x3 e3 G3 h3 h5
  refine stp G4 hh hb (by decide) x4 (show 4 < 10 by omega) (by rw [e4]) (sp_i6 hG (mv_wf_new G4.1) nw_s (by omega) rfl) fun h3 h7 p5 w5 g5 x5 G5 g5' => ?_
  rw [e4] at p5
  have R1 := p5.g g5 w5 (by omega) (by omega)
  replace B1 := g5'.sb B1 G4.1 (by omega) (by omega)
  replace D1 := g5'.at G4.1 D1 (by omega)
  replace D2 := g5'.at G4.1 D2 (by omega)
  replace Q1 := g5'.at G4.1 Q1 (by omega)
  replace Q2 := g5'.at G4.1 Q2 (by omega)
  replace F1 := g5'.FR F1 G4.1 (by omega)
  have e5 : h7.1 = x + 31 := by have := g5'.2.1; omega
  clear p5 w5 g5 g5' x4 e4 G4 h3 h6
  refine stp G5 hh hb (by decide) x5 (show 5 < 10 by omega) (by rw [e5]) (sp_iB hG (mv_wf_new G5.1) nw_s (by omega) rfl (by omega)) fun h3 h8 p6 w6 g6 x6 G6 g6' => ?_
  rw [e5] at p6
  have B2 := g6.sb p6 w6 (by omega) (by omega)
  replace B1 := g6'.sb B1 G5.1 (by omega) (by omega)
  replace D1 := g6'.at G5.1 D1 (by omega)
  replace D2 := g6'.at G5.1 D2 (by omega)
  replace Q1 := g6'.at G5.1 Q1 (by omega)
  replace Q2 := g6'.at G5.1 Q2 (by omega)
  replace F1 := g6'.FR F1 G5.1 (by omega)
  replace R1 := R1.g g6' G5.1 (by omega) (by omega)
  have e6 : h8.1 = x + 33 := by have := g6'.2.1; omega
  clear p6 w6 g6 g6' x5 e5 G5 h3 h7
  refine stp G6 hh hb (by decide) x6 (show 6 < 10 by omega) (by rw [e6]) (sp_i1 hG hz1 hz2 (mv_wf_new G6.1) nw_s (by omega) rfl (by omega)) fun h3 h9 p7 w7 g7 x7 G7 g7' => ?_
  rw [e6] at p7
  obtain ⟨V1, I1, p7⟩ := p7
  have C1 := g7.hdc p7 w7 (by omega)
  replace B1 := g7'.sb B1 G6.1 (by omega) (by omega)
  replace D1 := g7'.at G6.1 D1 (by omega)
  replace D2 := g7'.at G6.1 D2 (by omega)
  replace Q1 := g7'.at G6.1 Q1 (by omega)
  replace Q2 := g7'.at G6.1 Q2 (by omega)
  replace F1 := g7'.FR F1 G6.1 (by omega)
  replace R1 := R1.g g7' G6.1 (by omega) (by omega)
  replace B2 := g7'.sb B2 G6.1 (by omega) (by omega)
  have e7 : h9.1 = x + 116 := by have := g7'.2.1; omega
  clear p7 w7 g7 g7' x6 e6 G6 h3 h8
  refine stp G7 hh hb (by decide) x7 (show 7 < 10 by omega) (by rw [e7]) (sp_i1 hG hz1 hz2 (mv_wf_new G7.1) nw_s (by omega) rfl (by omega)) fun h3 h10 p8 w8 g8 x8 G8 g8' => ?_
  rw [e7] at p8
  obtain ⟨V2, I2, p8⟩ := p8
  have g9 : gwn h10 (mv_set h10 x (cTP x (x + 33) (x + 116) none (-1))) x 0 0 := gwn.set G8.1 x8 (by decide)
  refine vpu_of x8 hb (show 8 < 10 by omega) rfl (vpu_of hs_s hb (show 9 < 10 by omega) rfl ⟨rfl, ?_⟩)
  rw [mv_set_set]
  show TPx G (mv_set h10 x (cTP x (x + 33) (x + 116) none (-1))) x (x + 199) A0 (x + 33) (x + 116) (x + 2) 16 (x + 32) 16 [] none ∧ gwn h (mv_set h10 x (cTP x (x + 33) (x + 116) none (-1))) x 198 7553
  have gA := g8'.tr g9 (Or.inl rfl)
  have gB := g8.tr g9 (Or.inl rfl)
  have GA := G8.tr g9 (Or.inl rfl)
  have e8 : (mv_set h10 x (cTP x (x + 33) (x + 116) none (-1))).1 = x + 199 := by have := gA.2.1; omega
  have ns : ∀ (a q : Nat) (y : List Value), (mv_set h10 x (cTP x (x + 33) (x + 116) none (-1))).2.2 a = some (.inr (0, .ref q :: y)) → q < x := fun a q y z => hs a q y (GA.2.2.2.2 a _ z)
  refine ⟨⟨hs_s, Or.inl ⟨rfl, rfl⟩, ⟨gA.sb B1 G7.1 (by omega) (by omega), by omega, fun a q y z => ?_, Or.inl rfl⟩, ⟨gA.sb B2 G7.1 (by omega) (by omega), by omega, fun a q y z => ?_, Or.inl rfl⟩, by omega, ⟨⟨_, gA.at G7.1 D1 (by omega)⟩, ⟨_, _, _, gA.at G7.1 D2 (by omega)⟩, ⟨none, gA.at G7.1 Q1 (by omega)⟩, ⟨_, _, _, gA.at G7.1 Q2 (by omega)⟩⟩, gA.FR F1 G7.1 (by omega), R1.g gA G7.1 (by omega) (by omega), ⟨⟨_, _, _, gA.hdc C1 G7.1 (by omega), fun i hi => absurd hi (Nat.not_lt_zero _), fun t e => nomatch e⟩, fun t e => nomatch e⟩, ⟨_, _, _, _, gB.hdc p8 w8 (by omega)⟩, Or.inl ⟨rfl, rfl⟩, ?_, ⟨GA.1, fun a q y z => Or.inl (by have := ns a q y z; omega)⟩, ⟨Nat.zero_le _, fun j hj => absurd hj (Nat.not_lt_zero _)⟩, ⟨hb, Nat.le_refl _, by omega⟩, fun j hj => nomatch hj⟩, GA⟩
  · have := ns a q y z
    omega
  · have := ns a q y z
    omega
  · exact hL.c (GA.chg hw (by omega) hx (by decide)) hw (fun a ha => by omega)
end KQ
