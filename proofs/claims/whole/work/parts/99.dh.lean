/-! the finder: what the level below does -/
def LF (l : Launch) (G : mv_G) (f A : Nat) (t : List Nat) (D : dS) (L : HV) (e dd : Nat) : Prop :=
  (∀ n, n < D.1 → ∀ d h k a x y nx c, dd ≤ d → FS G h f A t D (nI k) → k ≤ 1000000 → f + 22 ≤ x ∧ A + 83 ≤ x → L.1 h x y a (nx, c) → mv_rq l G mX3_holds d 0 (mv_in [.ref f, .ref a, .int (nI n), .int (nI e)] 6) [] h (EV G h f A t D e x y (fun h1 => L.1 h1 x y a (nx, c)) k (c D n) (fun b o h1 => o = .inl (some (.int (b2i b)))))) ∧
  (∀ n, n < D.1 → ∀ d h k a x y p, dd ≤ d → FS G h f A t D (nI k) → k ≤ 1000000 → f + 22 ≤ x ∧ A + 83 ≤ x → L.2.1 h x y a p → mv_rq l G mX3_follow d 0 (mv_in [.ref f, .ref a, .int (nI n), .int (nI e)] 8) [] h (EV G h f A t D e x y (fun h1 => L.2.1 h1 x y a p) k (p.1 D n) (fun row o h1 => ∃ i : Nat, i < 10 ∧ o = .inl (some (.ref (f + 2 + 2 * i))) ∧ RO G h1 f D i row))) ∧
  (∀ n, n < D.1 → ∀ d h k a x y v, dd ≤ d → FS G h f A t D (nI k) → k ≤ 1000000 → f + 22 ≤ x ∧ A + 83 ≤ x → L.2.2 h x y a v → mv_rq l G mX3_valueOf d 0 (mv_in [.ref f, .ref a, .int (nI n), .int (nI e)] 5) [] h (EV G h f A t D e x y (fun h1 => L.2.2 h1 x y a v) k (v D n) (fun w o h1 => ∃ r, o = .inl (some (va_rf r)) ∧ vOK G h1 A D x y w r)))
def LFo (l : Launch) (G : mv_G) (f A : Nat) (t : List Nat) (D : dS) (lo : Option HV) (e dd : Nat) : Prop := lo = none ∨ ∃ L, lo = some L ∧ LF l G f A t D L (e + 1) dd ∧ hNx0 11 3 L.1 ∧ e < 4
theorem FX.mn' {G : mv_G} {h h1 : mv_H} {f e x y : Nat} (a : FX G h h1 f e 0 0) : FX G h h1 f e x y := ⟨a.1, fun q q1 q2 q3 => a.2.1 q q1 q2 (by omega), a.2.2⟩
theorem hFr.fx {G : mv_G} {β : Type} {P : HP β} (hF : hFr G P) {h h1 : mv_H} {x y x' y' a f e : Nat} {d : β} (H : P h x' y' a d) (F : FX G h h1 f e x y) (hs : y' ≤ x ∨ y ≤ x') (hf : f + 22 ≤ x') : P h1 x' y' a d := hF.1 _ _ _ _ _ _ H (fun b x1 x2 => F.2.1 b (by omega) (by omega) (by omega)) (fun s t hs => F.2.2.s hs)
theorem hrw.fx {G : mv_G} {h h1 : mv_H} {x y f e i : Nat} {r : List Nat} (H : hrw G h (f + 2 + 2 * i) r) (F : FX G h h1 f e x y) (hi : i < 2 * e) (he : e ≤ 5) (hx : f + 22 ≤ x) : hrw G h1 (f + 2 + 2 * i) r := H.fr (F.2.1 _ (by omega) (by omega) (by omega)) (F.2.1 _ (by omega) (by omega) (by omega))
section FI
variable {l : Launch} {G : mv_G} {d f A e dd : Nat} {t : List Nat} {D : dS} {lo : Option HV} {g : Nat → Nat}
/-- a piece that only puts nodes into a row -/
theorem PtR.ev {h h1 : mv_H} {k i ib x y : Nat} {rb : List Nat} {z : Option (List Nat)} {o : mv_O} {Pr : mv_H → Prop} (P : PtR G h f A t D (nI k) e i z o h1) (hk : k ≤ 1000000) (hp : ∀ h2, FX G h h2 f e 0 0 → Pr h2) (hib : ib < 10 ∧ ib ≠ i) (hb : hrw G h (f + 2 + 2 * ib) rb) : EV G h f A t D e x y (fun h2 => Pr h2 ∧ hrw G h2 (f + 2 + 2 * ib) rb) k (e0 z) (fun row' o h2 => o = .inl none ∧ RO G h2 f D i row') o h1 := by
  cases z with
  | none =>
    obtain ⟨p1, h', p2, p3, p4, p5⟩ := P
    exact Or.inr ⟨fun b j hz => by (cases hz), p1, h', nI k, p2, p3, p4.mn' , hp _ p4, p5 ib rb hib.1 hib.2 hb⟩
  | some r =>
    obtain ⟨p1, p2, p3, p4, p5⟩ := P
    exact Or.inl ⟨r, 0, rfl, hk, ⟨p1, p3⟩, p2, p4.mn', hp _ p4, p5 ib rb hib.1 hib.2 hb⟩
/-- any of them, one level below -/
theorem sp_any {L : HV} {n d x y b k : Nat} {nx : Option Nat} {c : dCnd} {h : mv_H} (hG : mv_ok G) (hF : hFr G L.1) (hN : hNx0 11 3 L.1) (hLF : LF l G f A t D L e dd) (hn : n < D.1) (hd : dd + 2 ≤ d) (H : FS G h f A t D (nI k)) (hk : k ≤ 1000000) (hs : f + 22 ≤ x ∧ A + 83 ≤ x) (P : kAny L.1 h x y b (nx, c)) : mv_rq l G mX3_anyHolds d 0 (mv_in [.ref f, .ref b, .int (nI n), .int (nI e)] 6) [] h (EV G h f A t D e x y (fun h1 => kAny L.1 h1 x y b (nx, c)) k (c D n) (fun b o h1 => o = .inl (some (.int (b2i b))))) := by
  obtain ⟨d, rfl⟩ : ∃ d', d = d' + 1 := ⟨d - 1, by omega⟩
  refine sp_anyHolds (dd := dd + 1) hG hF hn (fun d h k a x y nx c hd H hk hs P => ?_) (by omega) H hk hs P
  obtain ⟨d, rfl⟩ : ∃ d', d = d' + 1 := ⟨d - 1, by omega⟩
  exact sp_allHold (dd := dd) hG hF hN hn (hLF.1 n hn) (by omega) H hk hs P
theorem holdL {L : HV} {n i ib x y b d : Nat} {rb : List Nat} {c : dCnd} (hG : mv_ok G) (hX : mv_okX l G) (hT : mv_t G 0 ≠ mv_t G 1) (hI : dI t g D) (hF : hFr G L.1) (hN : hNx0 11 3 L.1) (hLF : LF l G f A t D L (e + 1) dd) (hn : n < D.1) (hi : i < 10 ∧ 2 * e ≤ i ∧ i < 2 * (e + 1)) (hib : ib < 2 * (e + 1) ∧ ib ≠ i) (he : e ≤ 4) (hd : dd + 2 ≤ d) (hd7 : 7 ≤ d) (hs : f + 22 ≤ x ∧ A + 83 ≤ x) :
    ∀ (m j : Nat) (h : mv_H) (row : List Nat) (k : Nat), j + m = (nki (D.2 n)).length → FS G h f A t D (nI k) → k ≤ 1000000 → RO G h f D i row → hrw G h (f + 2 + 2 * ib) rb → kAny L.1 h x y b (none, c) → mv_rq l G mX3_selectHolding (d + 1) 17 [some (.ref f), some (.int (nI n)), some (.ref b), some (.ref (f + 2 + 2 * i)), some (.int (nI (e + 1))), some (.int (nI (nki (D.2 n)).length)), some (.int (nI j)), none] [] h (EV G h f A t D e x y (fun h1 => kAny L.1 h1 x y b (none, c) ∧ hrw G h1 (f + 2 + 2 * ib) rb) k (selC c D ((nki (D.2 n)).drop j) row) (fun row' o h1 => o = .inl none ∧ RO G h1 f D i row')) := by
  have h40 := hI.1.1
  obtain ⟨k1, k2, k3, k4⟩ := hI.kids hn
  have hAF := kAny_fr (G := G) hF
  intro m
  induction m with
  | zero =>
    intro j h row k hj H hk hr hb P
    refine v_X3_selectHolding_17 hG ?_
    unfold w_X3_selectHolding_17
    refine vif_y (nI_le (by omega) (by omega)) (Or.inl ⟨row, 0, ?_, hk, ⟨rfl, hr⟩, H, FX.rf, P, hb⟩)
    rw [List.drop_eq_nil_of_le (by omega)]; rfl
  | succ m ih =>
    intro j h row k hj H hk hr hb P
    have hlt : j < (nki (D.2 n)).length := by omega
    have hkj : lk (nki (D.2 n)) j < D.1 := k1 _ (lk_in hlt)
    refine v_X3_selectHolding_17 hG ?_
    unfold w_X3_selectHolding_17
    refine vif_n (fun z => absurd ((nI_leI (by omega) (by omega)).mp z) (by omega)) (H.doc (H.dh.kid hn h40 k2 hlt (vob_of H.1 ((sp_any hG hF hN hLF hkj hd H hk hs P).mono fun o h1 hq => ?_))))
    have ed : selC c D ((nki (D.2 n)).drop j) row = eB (c D (lk (nki (D.2 n)) j)) fun b => eB (e0 (if b = true then addR row (lk (nki (D.2 n)) j) else some row)) fun row' => selC c D ((nki (D.2 n)).drop (j + 1)) row' := by rw [drop_lk hlt]; rfl
    rw [ed]
    rcases hq with ⟨bv, jj, q1, q2, q3, q4, q5, q6⟩ | ⟨q1, ⟨q, q2⟩, h', kk', q3, q4, q5, q6⟩
    · have F1 : FX G h h1 f e x y := q5.mn (by omega) (Nat.le_refl _) (Nat.le_refl _)
      have hr1 : RO G h1 f D i row := ⟨hr.1.fx q5 (by omega) (by omega) hs.1, hr.2⟩
      have hb1 : hrw G h1 (f + 2 + 2 * ib) rb := hb.fx q5 (by omega) (by omega) hs.1
      refine Or.inl ⟨b2i bv, q3, ?_⟩
      cases bv with
      | false =>
        refine vif_y rfl ?_
        rw [nI_1]
        refine (ih (j + 1) h1 row (k + jj) (by omega) q4 q2 hr1 hb1 q6).mono fun o2 h2 hq2 => EV.bind q1 F1 ?_
        rw [if_neg (by decide)]
        show EV _ _ _ _ _ _ _ _ _ _ _ (eB (some (row, 0)) _) _ _ _
        rw [eB_s]
        exact hq2
      | true =>
        obtain ⟨d, rfl⟩ : ∃ d', d = d' + 1 := ⟨d - 1, by omega⟩
        refine vif_n (by decide) (vob_of hr1.1.1 ((pr_add (e := e) hG hX hT q4 hi.1 hi.2.1 hr1 hkj (by omega)).mono fun o2 h2 hq2 => ?_))
        have E2 := hq2.ev (x := x) (y := y) (ib := ib) (rb := rb) (Pr := fun h2 => kAny L.1 h2 x y b (none, c)) q2 (fun h3 F3 => hAF.fx q6 F3 (by omega) hs.1) ⟨by omega, hib.2⟩ hb1
        rcases E2 with ⟨r2, j2, p1, p2, ⟨p3, p3'⟩, p4, p5, p6, p7⟩ | ⟨p1, ⟨q, p2⟩, h', kk', p3, p4, p5, p6⟩
        · refine Or.inl ⟨p3, ?_⟩
          rw [nI_1]
          refine (ih (j + 1) h2 r2 (k + jj + j2) (by omega) p4 p2 p3' p7 p6).mono fun o3 h3 hq3 => EV.bind q1 F1 ?_
          rw [if_pos rfl]
          exact EV.bind p1 p5 hq3
        · refine Or.inr ⟨_, p2, EV.bind q1 F1 ?_⟩
          rw [if_pos rfl]
          exact Or.inr ⟨p1.b1, ⟨_, rfl⟩, h', kk', p3, p4, p5, p6⟩
    · exact Or.inr ⟨_, q2, Or.inr ⟨q1.b1, ⟨_, rfl⟩, h', kk', q3, q4, q5.mn (by omega) (Nat.le_refl _) (Nat.le_refl _), q6, hb.fx q5 (by omega) (by omega) hs.1⟩⟩
/-- a selector goes from a node -/
theorem sp_select {n i ib x y a d k : Nat} {rb row : List Nat} {nx : Option Nat} {sd : dSel × Bool} {h : mv_H} (hG : mv_ok G) (hX : mv_okX l G) (hT : mv_t G 0 ≠ mv_t G 1) (hI : dI t g D) (hL : hLo G lo) (hO : LFo l G f A t D lo e dd) (hn : n < D.1) (hi : i < 10 ∧ 2 * e ≤ i ∧ i < 2 * (e + 1)) (hib : ib < 2 * (e + 1) ∧ ib ≠ i) (he : e ≤ 4) (hd : dd + 4 ≤ d) (hd9 : 10 ≤ d) (hs : f + 22 ≤ x ∧ A + 83 ≤ x) (H : FS G h f A t D (nI k)) (hk : k ≤ 1000000) (hr : RO G h f D i row) (hb : hrw G h (f + 2 + 2 * ib) rb) (P : kSel G lo h x y a (nx, sd)) :
    mv_rq l G mX3_select (d + 1) 0 (mv_in [.ref f, .int (nI n), .ref a, .ref (f + 2 + 2 * i), .int (nI e)] 5) [] h (EV G h f A t D e x y (fun h1 => kSel G lo h1 x y a (nx, sd) ∧ hrw G h1 (f + 2 + 2 * ib) rb) k (sd.1 D n row) (fun row' o h1 => o = .inl none ∧ RO G h1 f D i row')) := by
  have h40 := hI.1.1
  have hSF := kSel_fr (G := G) hL
  obtain ⟨k1, k2, k3, k4⟩ := hI.kids hn
  obtain ⟨d, rfl⟩ : ∃ d', d = d' + 1 := ⟨d - 1, by omega⟩
  obtain ⟨a1, a2, kd, nm, fr, to, st, hf, ht, cd, b1, b2⟩ := id P
  -- pieces that only put nodes into the row
  have plain : ∀ {z : Option (List Nat)} {o : mv_O} {h1 : mv_H}, PtR G h f A t D (nI k) e i z o h1 → EV G h f A t D e x y (fun h1 => kSel G lo h1 x y a (nx, sd) ∧ hrw G h1 (f + 2 + 2 * ib) rb) k (e0 z) (fun row' o h1 => o = .inl none ∧ RO G h1 f D i row') o h1 := fun {z o h1} hz => hz.ev (Pr := fun h2 => kSel G lo h2 x y a (nx, sd)) hk (fun h2 F2 => hSF.fx P F2 (by omega) hs.1) ⟨by omega, hib.2⟩ hb
  have pass : ∀ {M : mv_M} {L : List (Option Value)} {z : Option (List Nat)}, sd.1 D n row = e0 z → mv_rq l G M (d + 1) 0 L [] h (PtR G h f A t D (nI k) e i z) → mv_rq l G M (d + 1) 0 L [] h (vU (fun E h1 => EV G h f A t D e x y (fun h1 => kSel G lo h1 x y a (nx, sd) ∧ hrw G h1 (f + 2 + 2 * ib) rb) k (sd.1 D n row) (fun row' o h1 => o = .inl none ∧ RO G h1 f D i row') (.inr E) h1) (fun h1 => EV G h f A t D e x y (fun h1 => kSel G lo h1 x y a (nx, sd) ∧ hrw G h1 (f + 2 + 2 * ib) rb) k (sd.1 D n row) (fun row' o h1 => o = .inl none ∧ RO G h1 f D i row') (.inl none) h1)) := fun {M L z} ez hm => hm.mono fun o h1 hq => by
    rw [ez]
    have E1 := plain hq
    cases z with
    | none =>
      obtain ⟨⟨q, q1⟩, _⟩ := hq
      subst q1
      exact Or.inr ⟨_, rfl, E1⟩
    | some r =>
      obtain ⟨q1, _⟩ := hq
      subst q1
      exact Or.inl ⟨rfl, E1⟩
  refine v_X3_select hG ?_
  unfold w_X3_select
  refine vgi_of b1 rfl ?_
  rcases b2 with ⟨kz, u, z1, z2⟩ | ⟨kz, z2⟩ | ⟨kz, z1, z2⟩ | ⟨kz, ⟨s1, s2, s3⟩, bf, bt, z3, z4, z2⟩ | ⟨kz, b, c, L, z1, z3, z4, z2⟩
  · have z2' : sd = (sNamed u, true) := z2
    rw [kz]
    refine vif_y rfl (H.doc (vgb_of b1 rfl ?_))
    obtain ⟨s0, V0, I0, hdc0, _⟩ := id H.dh
    obtain ⟨d, rfl⟩ : ∃ d', d = d' + 1 := ⟨d - 1, by omega⟩
    refine vob_of hdc0.1 (vI_of (H.dh.named hG hI hn z1) (vob_of hr.1.1 (pass (by rw [z2']; rfl) ?_)))
    have e1 : (if nkd (D.2 n) = 6 then (kidN D n u).toList else []) = (if nkd (D.2 n) = 6 then kidN D n u else none).toList := by split <;> rfl
    rw [e1]
    refine pr_if hG hX hT H hi.1 hi.2.1 hr (fun m hm => ?_) h40 (by omega)
    split at hm
    · exact k1 m (List.mem_of_find?_eq_some hm)
    · cases hm
  · have z2' : sd = (sAll, false) := z2
    rw [kz]
    exact vif_n (by decide) (vif_y rfl (vob_of H.1 (pass (by rw [z2']; rfl) (sp_selectAll hG hX hT hI hn hi.1 hi.2.1 (by omega) H hr))))
  · have z2' : sd = (sPlace fr, true) := z2
    rw [kz]
    exact vif_n (by decide) (vif_n (by decide) (vif_y rfl (vgi_of b1 rfl (vob_of H.1 (pass (by rw [z2']; rfl) (sp_selectPlace hG hX hT hI hn hi.1 hi.2.1 (by omega) H hr z1))))))
  · have z2' : sd = (sStr bf fr bt to st, false) := z2
    rw [z3, z4] at b1
    rw [kz]
    exact vif_n (by decide) (vif_n (by decide) (vif_n (by decide) (vif_y rfl (vob_of H.1 (pass (by rw [z2']; rfl) (sp_selectStretch hG hX hT hI hn hi.1 hi.2.1 (by omega) s1 s2 s3 (by omega) H hr b1))))))
  · have z2' : sd = (sCond c, false) := z2
    rw [z1] at b1
    rcases hO with z | ⟨L', z5, hLF, hNN, he4⟩
    · rw [z] at z3; cases z3
    · rw [z5] at z3
      cases z3
      have hLL := hL L z5
      rw [kz]
      refine vif_n (by decide) (vif_n (by decide) (vif_n (by decide) (vif_n (by decide) (vgb_of b1 rfl (vob_of H.1 ?_)))))
      rw [nI_1]
      have hs' : f + 22 ≤ a + 1 ∧ A + 83 ≤ a + 1 := ⟨by omega, by omega⟩
      refine (v_X3_selectHolding hG ?_ : mv_rq l G mX3_selectHolding (d + 1) 0 (mv_in [.ref f, .int (nI n), .ref b, .ref (f + 2 + 2 * i), .int (nI (e + 1))] 8) [] h _)
      unfold w_X3_selectHolding
      refine H.doc (H.dh.cnt hG hI hn (by omega) ((holdL hG hX hT hI hLL.1 hNN hLF hn hi hib he (by omega) (by omega) hs' _ 0 h row k (Nat.zero_add _) H hk hr hb z4).mono fun o h1 hq => ?_))
      have ev : sd.1 D n row = selC c D ((nki (D.2 n)).drop 0) row := by rw [z2']; rfl
      rw [ev]
      have E1 : EV G h f A t D e x y (fun h1 => kSel G lo h1 x y a (nx, sd) ∧ hrw G h1 (f + 2 + 2 * ib) rb) k (selC c D ((nki (D.2 n)).drop 0) row) (fun row' o h1 => o = .inl none ∧ RO G h1 f D i row') o h1 := hq.mn (Nat.le_refl _) (by omega) (Nat.le_refl _) (fun h2 F2 Q2 => ⟨⟨a1, a2, kd, nm, fr, to, st, hf, ht, some b, by rw [F2.2.1 a (by omega) (by omega) (by omega)]; exact b1, Or.inr (Or.inr (Or.inr (Or.inr ⟨kz, b, c, L, rfl, z5, Q2.1, z2⟩)))⟩, Q2.2⟩) (fun _ _ _ V => V)
      rcases E1 with ⟨r, j, p1, p2, ⟨p3, p3'⟩, p4⟩ | ⟨p1, ⟨q, p2⟩, p3⟩
      · exact Or.inl ⟨p3, Or.inl ⟨r, j, p1, p2, ⟨rfl, p3'⟩, p4⟩⟩
      · exact Or.inr ⟨_, p2, Or.inr ⟨p1, ⟨_, rfl⟩, p3⟩⟩
end FI
