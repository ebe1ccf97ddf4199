/-! the finder: lists of conditions -/
theorem eB_as {α β γ : Type} (x : eR α) (f : α → eR β) (g : β → eR γ) : eB (eB x f) g = eB x fun a => eB (f a) g := by
  cases x with
  | none => rfl
  | some p =>
    obtain ⟨a, i⟩ := p
    simp only [eB]
    cases f a with
    | none => rfl
    | some q =>
      obtain ⟨b, j⟩ := q
      simp only []
      cases g b with
      | none => rfl
      | some r =>
        obtain ⟨c, k⟩ := r
        simp [Nat.add_assoc]
/-- the cell of an object with a follower -/
def hNx0 {α : Type} (ci k : Nat) (E : HE α) : Prop := ∀ h x y a nx d, E h x y a (nx, d) → x ≤ a ∧ a < y ∧ ∃ fs, h.2.2 a = some (.inr (ci, fs)) ∧ fs[k]? = some (va_rf nx)
theorem kAll_nx {T : HE dCnd} : hNx0 11 3 (kAll T) := fun h x y a nx d ⟨a1, a2, ds, fr, la, pa, le, rel, ri, b1, b2, b3⟩ => ⟨a1, a2, _, b1, rfl⟩
theorem kAny_nx {T : HE dCnd} : hNx0 11 3 (kAny T) := fun h x y a nx d ⟨a1, a2, ds, fr, la, pa, le, rel, ri, b1, b2, b3⟩ => ⟨a1, a2, _, b1, rfl⟩
theorem kSel_nx {G : mv_G} {lo : Option HV} : hNx0 10 8 (kSel G lo) := fun h x y a nx d ⟨a1, a2, kd, nm, f, to, st, hf, ht, cd, b1, b2⟩ => ⟨a1, a2, _, b1, rfl⟩
theorem kSeg_nx {G : mv_G} {lo : Option HV} : hNx0 9 3 (kSeg G lo) := fun h x y a nx d ⟨a1, a2, fr, la, ss, b1, b2, b3⟩ => ⟨a1, a2, _, b1, rfl⟩
theorem kTst_nx {G : mv_G} {lo : Option HV} : hNx0 11 3 (kTst G lo) := fun h x y a nx d H => by
  rcases H with ⟨L, e1, e2⟩ | ⟨a1, a2, kd, fr, la, pa, le, rel, ri, b1, b2⟩
  · exact kAny_nx h x y a nx d e2
  · exact ⟨a1, a2, _, b1, rfl⟩
section FH
variable {l : Launch} {G : mv_G} {d f A : Nat} {t : List Nat} {D : dS}

/-- all of them -/
theorem loopAllH {T : HE dCnd} {e dd n x0 y0 aa : Nat} {nx0 : Option Nat} {fr0 la0 pa0 le0 ri0 : Option Nat} {rel0 : Int32} (hG : mv_ok G) (hF : hFr G T) (hN : hNx0 11 3 T) (hn : n < D.1) (hsp : f + 22 ≤ x0) (hx0 : x0 ≤ aa ∧ aa < y0) (hh : ∀ d h k a x y nx c, dd ≤ d → FS G h f A t D (nI k) → k ≤ 1000000 → f + 22 ≤ x ∧ A + 83 ≤ x → T h x y a (nx, c) → mv_rq l G mX3_holds d 0 (mv_in [.ref f, .ref a, .int (nI n), .int (nI e)] 6) [] h (EV G h f A t D e x y (fun h1 => T h1 x y a (nx, c)) k (c D n) (fun b o h1 => o = .inl (some (.int (b2i b)))))) (hd : dd ≤ d) (hA : A + 83 ≤ x0) :
    ∀ (rest pre : List dCnd) (m0 : Nat) (cur : Option Nat) (acc : Bool) (h : mv_H) (k : Nat), FS G h f A t D (nI k) → k ≤ 1000000 → h.2.2 aa = some (cTst 1 fr0 la0 nx0 pa0 le0 rel0 ri0) → hLs T h pre (aa + 1) m0 fr0 cur → hLs T h rest m0 y0 cur none →
    mv_rq l G mX3_allHold (d + 1) 9 [some (.ref f), none, some (.int (nI n)), some (.int (nI e)), some (.int (b2i acc)), some (va_rf cur)] [] h (EV G h f A t D e x0 y0 (fun h1 => h1.2.2 aa = some (cTst 1 fr0 la0 nx0 pa0 le0 rel0 ri0) ∧ hLs T h1 (pre ++ rest) (aa + 1) y0 fr0 none) k (eB (allR rest D n) fun b' => some (acc && b', 0)) (fun b o h1 => o = .inl (some (.int (b2i b))))) := by
  intro rest
  induction rest with
  | nil =>
    intro pre m0 cur acc h k H hk ha P0 R0
    obtain ⟨rfl, hle⟩ := R0
    refine v_X3_allHold_9 (u5 := none) hG ?_
    unfold w_X3_allHold_9
    refine vnl_y ⟨(nBb acc).1, Or.inl ⟨acc, 0, ?_, by omega, rfl, H, FX.rf, ha, ?_⟩⟩
    · show eB (some (true, 0)) _ = _
      rw [eB_s, Bool.and_true]
    · rw [List.append_nil]; exact P0.mo hF (Nat.le_refl _) hle
  | cons c rest ih =>
    intro pre m0 cur acc h k H hk ha P0 R0
    obtain ⟨b, m1, nx, rfl, hm, E0, R1⟩ := R0
    have hp := P0.le
    have hr := R1.le
    obtain ⟨hb1, hb2, fs, hb3, hb4⟩ := hN _ _ _ _ _ _ E0
    refine v_X3_allHold_9 (u5 := some b) hG ?_
    unfold w_X3_allHold_9
    refine ⟨fun z => (by cases z), fun b' hb' => ?_⟩
    cases hb'
    -- the state behind one of the list
    have conv : ∀ h1, FX G h h1 f e m0 m1 → T h1 m0 m1 b (nx, c) → h1.2.2 aa = some (cTst 1 fr0 la0 nx0 pa0 le0 rel0 ri0) ∧ hLs T h1 (pre ++ [c]) (aa + 1) m1 fr0 nx ∧ hLs T h1 rest m1 y0 nx none := fun h1 F1 E1 =>
      ⟨by rw [F1.2.1 aa (by omega) (by omega) (by omega)]; exact ha, (P0.fr hF (fun s t hs => F1.2.2.s hs) (fun q x1 x2 => F1.2.1 q (by omega) (by omega) (by omega))).app hF ⟨b, m1, nx, rfl, hm, E1, rfl, Nat.le_refl _⟩, R1.fr hF (fun s t hs => F1.2.2.s hs) (fun q x1 x2 => F1.2.1 q (by omega) (by omega) (by omega))⟩
    have eA : (eB (allR (c :: rest) D n) fun b' => some (acc && b', 0)) = eB (c D n) fun b => eB (allR rest D n) fun b' => some ((acc && b) && b', 0) := by
      show eB (eB (c D n) fun b => eB (allR rest D n) fun b' => some (b && b', 0)) _ = _
      rw [eB_as]
      congr 1
      funext b
      rw [eB_as]
      congr 1
      funext b'
      rw [eB_s, Bool.and_assoc]
    rw [eA]
    refine vob_of H.1 ((hh d h k b m0 m1 nx c hd H hk ⟨by omega, by omega⟩ E0).mono fun o h1 hq => ?_)
    rcases hq with ⟨bv, j, q1, q2, q3, q4, q5, q6⟩ | ⟨q1, ⟨q, q2⟩, h', kk', q3, q4, q5, q6⟩
    · refine Or.inl ⟨b2i bv, q3, ?_⟩
      obtain ⟨c1, c2, c3⟩ := conv h1 q5 q6
      obtain ⟨_, _, fs1, g1, g2⟩ := hN _ _ _ _ _ _ q6
      refine vgr_of g1 g2 ?_
      rw [show b2i acc &&& b2i bv = b2i (acc && bv) from by cases acc <;> cases bv <;> rfl]
      refine (ih (pre ++ [c]) m1 nx (acc && bv) h1 (k + j) q4 q2 c1 c2 c3).mono fun o2 h2 hq2 => ?_
      have := EV.bind (g := fun b => eB (allR rest D n) fun b' => some ((acc && b) && b', 0)) q1 (q5.mn (Nat.le_refl _) (by omega) (by omega)) hq2
      rw [show pre ++ (c :: rest) = pre ++ [c] ++ rest by simp]
      exact this
    · obtain ⟨c1, c2, c3⟩ := conv h' q5 q6
      refine Or.inr ⟨_, q2, Or.inr ⟨q1.b1, ⟨_, rfl⟩, h', kk', q3, q4, q5.mn (Nat.le_refl _) (by omega) (by omega), c1, ?_⟩⟩
      rw [show pre ++ (c :: rest) = pre ++ [c] ++ rest by simp]
      exact c2.app hF c3
theorem sp_allHold {T : HE dCnd} {e dd n x y a k : Nat} {nx : Option Nat} {c : dCnd} {h : mv_H} (hG : mv_ok G) (hF : hFr G T) (hN : hNx0 11 3 T) (hn : n < D.1) (hh : ∀ d h k a x y nx c, dd ≤ d → FS G h f A t D (nI k) → k ≤ 1000000 → f + 22 ≤ x ∧ A + 83 ≤ x → T h x y a (nx, c) → mv_rq l G mX3_holds d 0 (mv_in [.ref f, .ref a, .int (nI n), .int (nI e)] 6) [] h (EV G h f A t D e x y (fun h1 => T h1 x y a (nx, c)) k (c D n) (fun b o h1 => o = .inl (some (.int (b2i b)))))) (hd : dd ≤ d) (H : FS G h f A t D (nI k)) (hk : k ≤ 1000000) (hs : f + 22 ≤ x ∧ A + 83 ≤ x) (P : kAll T h x y a (nx, c)) :
    mv_rq l G mX3_allHold (d + 1) 0 (mv_in [.ref f, .ref a, .int (nI n), .int (nI e)] 6) [] h (EV G h f A t D e x y (fun h1 => kAll T h1 x y a (nx, c)) k (c D n) (fun b o h1 => o = .inl (some (.int (b2i b))))) := by
  obtain ⟨a1, a2, ds, fr, la, pa, le, rel, ri, b1, b2, b3⟩ := P
  have b3' : c = allR ds := b3
  refine v_X3_allHold hG ?_
  unfold w_X3_allHold
  refine vgr_of b1 rfl ?_
  refine (loopAllH (e := e) hG hF hN hn hs.1 ⟨a1, a2⟩ hh hd hs.2 ds [] (a + 1) fr true h k H hk b1 ⟨rfl, Nat.le_refl _⟩ b2).mono fun o h1 hq => ?_
  have eq1 : (eB (allR ds D n) fun b' => some (true && b', 0)) = c D n := by
    rw [b3']
    cases hx : allR ds D n with
    | none => rfl
    | some p => cases p.1 <;> simp [eB]
  rw [eq1] at hq
  refine hq.mn (Nat.le_refl _) (Nat.le_refl _) (Nat.le_refl _) (fun h2 F2 Q2 => ?_) (fun b h2 F2 V2 => V2)
  exact ⟨a1, a2, ds, fr, la, pa, le, rel, ri, Q2.1, Q2.2, b3⟩

/-- any of them -/
theorem loopAnyH {T : HE dCnd} {e dd n x0 y0 aa : Nat} {nx0 : Option Nat} {fr0 la0 pa0 le0 ri0 : Option Nat} {rel0 : Int32} (hG : mv_ok G) (hF : hFr G T) (hN : hNx0 11 3 T) (hn : n < D.1) (hsp : f + 22 ≤ x0) (hx0 : x0 ≤ aa ∧ aa < y0) (hh : ∀ d h k a x y nx c, dd ≤ d → FS G h f A t D (nI k) → k ≤ 1000000 → f + 22 ≤ x ∧ A + 83 ≤ x → T h x y a (nx, c) → mv_rq l G mX3_allHold d 0 (mv_in [.ref f, .ref a, .int (nI n), .int (nI e)] 6) [] h (EV G h f A t D e x y (fun h1 => T h1 x y a (nx, c)) k (c D n) (fun b o h1 => o = .inl (some (.int (b2i b)))))) (hd : dd ≤ d) (hA : A + 83 ≤ x0) :
    ∀ (rest pre : List dCnd) (m0 : Nat) (cur : Option Nat) (acc : Bool) (h : mv_H) (k : Nat), FS G h f A t D (nI k) → k ≤ 1000000 → h.2.2 aa = some (cTst 0 fr0 la0 nx0 pa0 le0 rel0 ri0) → hLs T h pre (aa + 1) m0 fr0 cur → hLs T h rest m0 y0 cur none →
    mv_rq l G mX3_anyHolds (d + 1) 9 [some (.ref f), none, some (.int (nI n)), some (.int (nI e)), some (.int (b2i acc)), some (va_rf cur)] [] h (EV G h f A t D e x0 y0 (fun h1 => h1.2.2 aa = some (cTst 0 fr0 la0 nx0 pa0 le0 rel0 ri0) ∧ hLs T h1 (pre ++ rest) (aa + 1) y0 fr0 none) k (eB (anyR rest D n) fun b' => some (acc || b', 0)) (fun b o h1 => o = .inl (some (.int (b2i b))))) := by
  intro rest
  induction rest with
  | nil =>
    intro pre m0 cur acc h k H hk ha P0 R0
    obtain ⟨rfl, hle⟩ := R0
    refine v_X3_anyHolds_9 (u5 := none) hG ?_
    unfold w_X3_anyHolds_9
    refine vnl_y ⟨(nBb acc).1, Or.inl ⟨acc, 0, ?_, by omega, rfl, H, FX.rf, ha, ?_⟩⟩
    · show eB (some (false, 0)) _ = _
      rw [eB_s, Bool.or_false]
    · rw [List.append_nil]; exact P0.mo hF (Nat.le_refl _) hle
  | cons c rest ih =>
    intro pre m0 cur acc h k H hk ha P0 R0
    obtain ⟨b, m1, nx, rfl, hm, E0, R1⟩ := R0
    have hp := P0.le
    have hr := R1.le
    obtain ⟨hb1, hb2, fs, hb3, hb4⟩ := hN _ _ _ _ _ _ E0
    refine v_X3_anyHolds_9 (u5 := some b) hG ?_
    unfold w_X3_anyHolds_9
    refine ⟨fun z => (by cases z), fun b' hb' => ?_⟩
    cases hb'
    -- the state behind one of the list
    have conv : ∀ h1, FX G h h1 f e m0 m1 → T h1 m0 m1 b (nx, c) → h1.2.2 aa = some (cTst 0 fr0 la0 nx0 pa0 le0 rel0 ri0) ∧ hLs T h1 (pre ++ [c]) (aa + 1) m1 fr0 nx ∧ hLs T h1 rest m1 y0 nx none := fun h1 F1 E1 =>
      ⟨by rw [F1.2.1 aa (by omega) (by omega) (by omega)]; exact ha, (P0.fr hF (fun s t hs => F1.2.2.s hs) (fun q x1 x2 => F1.2.1 q (by omega) (by omega) (by omega))).app hF ⟨b, m1, nx, rfl, hm, E1, rfl, Nat.le_refl _⟩, R1.fr hF (fun s t hs => F1.2.2.s hs) (fun q x1 x2 => F1.2.1 q (by omega) (by omega) (by omega))⟩
    have eA : (eB (anyR (c :: rest) D n) fun b' => some (acc || b', 0)) = eB (c D n) fun b => eB (anyR rest D n) fun b' => some ((acc || b) || b', 0) := by
      show eB (eB (c D n) fun b => eB (anyR rest D n) fun b' => some (b || b', 0)) _ = _
      rw [eB_as]
      congr 1
      funext b
      rw [eB_as]
      congr 1
      funext b'
      rw [eB_s, Bool.or_assoc]
    rw [eA]
    refine vob_of H.1 ((hh d h k b m0 m1 nx c hd H hk ⟨by omega, by omega⟩ E0).mono fun o h1 hq => ?_)
    rcases hq with ⟨bv, j, q1, q2, q3, q4, q5, q6⟩ | ⟨q1, ⟨q, q2⟩, h', kk', q3, q4, q5, q6⟩
    · refine Or.inl ⟨b2i bv, q3, ?_⟩
      obtain ⟨c1, c2, c3⟩ := conv h1 q5 q6
      obtain ⟨_, _, fs1, g1, g2⟩ := hN _ _ _ _ _ _ q6
      refine vgr_of g1 g2 ?_
      rw [show b2i acc ||| b2i bv = b2i (acc || bv) from by cases acc <;> cases bv <;> rfl]
      refine (ih (pre ++ [c]) m1 nx (acc || bv) h1 (k + j) q4 q2 c1 c2 c3).mono fun o2 h2 hq2 => ?_
      have := EV.bind (g := fun b => eB (anyR rest D n) fun b' => some ((acc || b) || b', 0)) q1 (q5.mn (Nat.le_refl _) (by omega) (by omega)) hq2
      rw [show pre ++ (c :: rest) = pre ++ [c] ++ rest by simp]
      exact this
    · obtain ⟨c1, c2, c3⟩ := conv h' q5 q6
      refine Or.inr ⟨_, q2, Or.inr ⟨q1.b1, ⟨_, rfl⟩, h', kk', q3, q4, q5.mn (Nat.le_refl _) (by omega) (by omega), c1, ?_⟩⟩
      rw [show pre ++ (c :: rest) = pre ++ [c] ++ rest by simp]
      exact c2.app hF c3
theorem sp_anyHolds {T : HE dCnd} {e dd n x y a k : Nat} {nx : Option Nat} {c : dCnd} {h : mv_H} (hG : mv_ok G) (hF : hFr G T) (hn : n < D.1) (hh : ∀ d h k a x y nx c, dd ≤ d → FS G h f A t D (nI k) → k ≤ 1000000 → f + 22 ≤ x ∧ A + 83 ≤ x → kAll T h x y a (nx, c) → mv_rq l G mX3_allHold d 0 (mv_in [.ref f, .ref a, .int (nI n), .int (nI e)] 6) [] h (EV G h f A t D e x y (fun h1 => kAll T h1 x y a (nx, c)) k (c D n) (fun b o h1 => o = .inl (some (.int (b2i b)))))) (hd : dd ≤ d) (H : FS G h f A t D (nI k)) (hk : k ≤ 1000000) (hs : f + 22 ≤ x ∧ A + 83 ≤ x) (P : kAny T h x y a (nx, c)) :
    mv_rq l G mX3_anyHolds (d + 1) 0 (mv_in [.ref f, .ref a, .int (nI n), .int (nI e)] 6) [] h (EV G h f A t D e x y (fun h1 => kAny T h1 x y a (nx, c)) k (c D n) (fun b o h1 => o = .inl (some (.int (b2i b))))) := by
  obtain ⟨a1, a2, ds, fr, la, pa, le, rel, ri, b1, b2, b3⟩ := P
  have b3' : c = anyR ds := b3
  refine v_X3_anyHolds hG ?_
  unfold w_X3_anyHolds
  refine vgr_of b1 rfl ?_
  refine (loopAnyH (T := kAll T) (e := e) hG (kAll_fr hF) kAll_nx hn hs.1 ⟨a1, a2⟩ hh hd hs.2 ds [] (a + 1) fr false h k H hk b1 ⟨rfl, Nat.le_refl _⟩ b2).mono fun o h1 hq => ?_
  have eq1 : (eB (anyR ds D n) fun b' => some (false || b', 0)) = c D n := by
    rw [b3']
    cases hx : anyR ds D n with
    | none => rfl
    | some p => cases p.1 <;> simp [eB]
  rw [eq1] at hq
  refine hq.mn (Nat.le_refl _) (Nat.le_refl _) (Nat.le_refl _) (fun h2 F2 Q2 => ?_) (fun b h2 F2 V2 => V2)
  exact ⟨a1, a2, ds, fr, la, pa, le, rel, ri, Q2.1, Q2.2, b3⟩
end FH
