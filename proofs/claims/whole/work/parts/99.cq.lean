/-- what comes of reading an object -/
def QR (G : mv_G) (h : mv_H) (r c s : Nat) (t : List Nat) (p : Nat) {β : Type} (P : HP β) (b1 b2 er : Nat) (x : (β × Nat) ⊕ Nat) (o : mv_O) (h1 : mv_H) : Prop := match x with
  | .inl (d, p') => ∃ a, o = .inl (some (.ref a)) ∧ QT G h h1 r c s t p' ∧ P h1 h.1 h1.1 a d ∧ h1.1 + 5 * p + b1 ≤ h.1 + 5 * p' + b2
  | .inr w => (∃ q, o = .inr (xIA, q)) ∧ IQ G h h1 c s w ∧ h1.1 + 5 * p ≤ h.1 + 5 * t.length + er
abbrev nn {α : Type} (E : HE α) : HP α := fun h x y a d => E h x y a (none, d)
theorem sm0 : sm 0 := by unfold sm; decide
theorem sm1 : sm 1 := by unfold sm; decide
section QD
variable {l : Launch} {G : mv_G} {d : Nat} {h : mv_H} {r c s : Nat} {t : List Nat} {p : Nat} {lo : Option HV}
theorem QR.ill {β : Type} {P : HP β} {b1 b2 er w : Nat} {o : mv_O} {h1 h2 : mv_H} {p1 : Nat} (T : QT G h h1 r c s t p1) (hp : p ≤ p1) (I : IQ G h1 h2 c s w) (ho : ∃ q, o = .inr (xIA, q)) (hb : h2.1 ≤ h.1 + er + 5 * (p1 - p)) : QR G h r c s t p P b1 b2 er (.inr w) o h2 := by
  refine ⟨ho, I.tr T.2.1, ?_⟩
  have := T.1.2.2.2.2.2
  omega
theorem sp_readStretch {hf : Bool} {f : Int32} {er : Nat} (hG : mv_ok G) (hX : mv_okX l G) (H : QS G h r c s t p) (hf1 : sm f) (he : 2 ≤ er) (hd : 9 ≤ d) : mv_rq l G mX5_readStretch (d + 1) 0 (mv_in [.ref r, .int (b2i hf), .int f] 4) [] h (QR G h r c s t p (nn (hSel G lo)) 3 0 er (qStr t hf f p)) := by
  obtain ⟨hw, hb⟩ := H.wf
  obtain ⟨z, z1, z2⟩ := H.2.2.2.1.2.2.1
  obtain ⟨d, rfl⟩ : ∃ d', d = d' + 1 := ⟨d - 1, by omega⟩
  refine v_X5_readStretch hG ?_
  unfold w_X5_readStretch
  refine vnw_of (vU_of (sp_sInit hG hn_s hb z1) ?_)
  rw [mv_set_new]
  have T0 : QT G h (mv_new h 9 (cSel 3 z 0 0 1 0 0 none none)) r c s t p := H.st.new (by omega) (fun fs w => by simp at w)
  have a0 : (mv_new h 9 (cSel 3 z 0 0 1 0 0 none none)).2.2 h.1 = some (cSel 3 z 0 0 1 0 0 none none) := hn_s
  have n0 : (mv_new h 9 (cSel 3 z 0 0 1 0 0 none none)).1 = h.1 + 1 := rfl
  generalize mv_new h 9 (cSel 3 z 0 0 1 0 0 none none) = h0 at T0 a0 n0
  refine ⟨(nBb hf).1, (nBb hf).2, vpu_of a0 hb (show 5 < 9 by decide) rfl (vpu_of hs_s hb (show 2 < 9 by decide) rfl ?_)⟩
  rw [mv_set_set]
  have T1 : QT G h (mv_set h0 h.1 (cSel 3 z f 0 1 (b2i hf) 0 none none)) r c s t p := T0.set (Nat.le_refl _) a0 (by decide) (fun fs w => by simp at w)
  have a1 : (mv_set h0 h.1 (cSel 3 z f 0 1 (b2i hf) 0 none none)).2.2 h.1 = some (cSel 3 z f 0 1 (b2i hf) 0 none none) := hs_s
  have n1 : (mv_set h0 h.1 (cSel 3 z f 0 1 (b2i hf) 0 none none)).1 = h.1 + 1 := n0
  rw [show ([Value.int 3, Value.ref z, Value.int 0, Value.int 0, Value.int 1, Value.int 0, Value.int 0, va_rf none, va_rf none].set 5 (.int (b2i hf))).set 2 (.int f) = [Value.int 3, Value.ref z, Value.int f, Value.int 0, Value.int 1, Value.int (b2i hf), Value.int 0, va_rf none, va_rf none] from rfl]
  generalize mv_set h0 h.1 (cSel 3 z f 0 1 (b2i hf) 0 none none) = h1 at T1 a1 n1
  have hcc := T1.2.2.2
  -- the last stretch of the way
  have fin : ∀ (h2 : mv_H) (p2 : Nat) (bt : Bool) (to : Int32), sm to → QT G h h2 r c s t p2 → p < p2 → h2.2.2 h.1 = some (cSel 3 z f to 1 (b2i hf) (b2i bt) none none) → h2.1 = h.1 + 1 →
      mv_rq l G mX5_readStretch (d + 2) 55 [some (.ref r), none, none, some (.ref h.1)] [] h2 (QR G h r c s t p (nn (hSel G lo)) 3 0 er (if lk t p2 = 58 then rB (qNum t 1 (p2 + 1)) fun st p3 => .inl ((sStr hf f bt to st.2, false), p3) else .inl ((sStr hf f bt to 1, false), p2))) := by
    intro h2 p2 bt to hto T2 hp2 a2 n2
    have good : ∀ (h3 : mv_H) (p3 : Nat) (st : Int32), sm st → QT G h h3 r c s t p3 → p < p3 → h3.2.2 h.1 = some (cSel 3 z f to st (b2i hf) (b2i bt) none none) → h3.1 = h.1 + 1 → QR G h r c s t p (nn (hSel G lo)) 3 0 er (.inl ((sStr hf f bt to st, false), p3)) (.inl (some (.ref h.1))) h3 := fun h3 p3 st hst T3 hp3 a3 n3 =>
      ⟨h.1, rfl, T3, ⟨Nat.le_refl _, by omega, 3, z, f, to, st, _, _, none, a3, Or.inr (Or.inr (Or.inr (Or.inl ⟨rfl, ⟨hf1, hto, hst⟩, hf, bt, rfl, rfl, rfl⟩)))⟩, by omega⟩
    refine v_X5_readStretch_55 hG ?_
    unfold w_X5_readStretch_55
    refine qPas (ch := 58) hG T2.1 (by omega) (by omega) (by omega) (fun c1 h3 T3 e3 => vif_n (by decide) (qSNum hG T3.1 (by omega) ?_)) (fun c1 => vif_y rfl ?_)
    · rw [if_pos c1]
      unfold qNum
      have a3 := T3.2.1.at T2.1.wf.1 a2 (by omega)
      by_cases c2 : isNm t (p2 + 1)
      · rw [if_pos c2, if_pos c2]
        refine vif_n (by decide) (qNumb hG hX T3.1 (by omega) (fun v p' e h4 T4 e4 => ?_) (fun w e q h4 I e4 => ?_))
        · have a4 := T4.2.1.at T3.1.wf.1 a3 (by omega)
          rw [e]
          refine vpu_of a4 hb (show 4 < 9 by decide) rfl (good _ p' v (rdN_sm e) ((T2.tr (T3.tr T4)).set (Nat.le_refl _) a4 (by decide) (fun fs w => by simp at w)) ?_ hs_s (by show h4.1 = _; omega))
          have := rdN_lt (lim := 2) e
          omega
        · rw [e]
          exact QR.ill (T2.tr T3) (by omega) I ⟨_, rfl⟩ (by omega)
      · rw [if_neg c2, if_neg c2]
        exact vif_y rfl (good h3 (p2 + 1) 1 sm1 (T2.tr T3) (by omega) a3 (by omega))
    · rw [if_neg c1]
      exact good h2 p2 1 sm1 T2 hp2 a2 n2
  refine qExp (ch := 58) hG hX T1.1 (by omega) (by omega) (by omega) (fun c1 h2 T2 e2 => qSNum hG T2.1 (by omega) ?_) (fun c1 q h2 I e2 => ?_)
  · have a2 := T2.2.1.at T1.1.wf.1 a1 (by omega)
    have eq1 : qStr t hf f p = rB (qNum t 0 (p + 1)) fun to p2 => if lk t p2 = 58 then rB (qNum t 1 (p2 + 1)) fun st p3 => .inl ((sStr hf f to.1 to.2 st.2, false), p3) else .inl ((sStr hf f to.1 to.2 1, false), p2) := by
      unfold qStr exC
      rw [if_pos c1]; rfl
    rw [eq1]
    by_cases c2 : isNm t (p + 1)
    · rw [if_pos c2]
      have eq2 : qNum t 0 (p + 1) = rB (rdN t 3 (p + 1)) fun v p1 => .inl ((true, v), p1) := by unfold qNum; rw [if_pos c2]
      rw [eq2]
      refine vif_n (by decide) (vpu_of a2 hb (show 6 < 9 by decide) rfl ?_)
      have T2' : QT G h (mv_set h2 h.1 (cSel 3 z f 0 1 (b2i hf) 1 none none)) r c s t (p + 1) := (T1.tr T2).set (Nat.le_refl _) a2 (by decide) (fun fs w => by simp at w)
      have a2' : (mv_set h2 h.1 (cSel 3 z f 0 1 (b2i hf) 1 none none)).2.2 h.1 = some (cSel 3 z f 0 1 (b2i hf) 1 none none) := hs_s
      have n2' : (mv_set h2 h.1 (cSel 3 z f 0 1 (b2i hf) 1 none none)).1 = h.1 + 1 := by show h2.1 = _; omega
      rw [show [Value.int 3, Value.ref z, Value.int f, Value.int 0, Value.int 1, Value.int (b2i hf), Value.int 0, va_rf none, va_rf none].set 6 (.int 1) = [Value.int 3, Value.ref z, Value.int f, Value.int 0, Value.int 1, Value.int (b2i hf), Value.int 1, va_rf none, va_rf none] from rfl]
      generalize mv_set h2 h.1 (cSel 3 z f 0 1 (b2i hf) 1 none none) = h2' at T2' a2' n2'
      refine qNumb hG hX T2'.1 (by omega) (fun v p' e h4 T4 e4 => ?_) (fun w e q h4 I e4 => ?_)
      · have a4 := T4.2.1.at T2'.1.wf.1 a2' (by omega)
        have hlt := rdN_lt (lim := 2) e
        rw [e]
        exact vpu_of a4 hb (show 3 < 9 by decide) rfl (fin _ p' true v (rdN_sm e) ((T2'.tr T4).set (Nat.le_refl _) a4 (by decide) (fun fs w => by simp at w)) (by omega) hs_s (by show h4.1 = _; omega))
      · rw [e]
        exact QR.ill T2' (by omega) I ⟨_, rfl⟩ (by omega)
    · rw [if_neg c2]
      have eq2 : qNum t 0 (p + 1) = .inl ((false, 0), p + 1) := by unfold qNum; rw [if_neg c2]
      rw [eq2]
      exact vif_y rfl (fin h2 (p + 1) false 0 sm0 (T1.tr T2) (by omega) a2 (by omega))
  · have eq1 : qStr t hf f p = .inr p := by
      unfold qStr exC
      rw [if_neg c1]; rfl
    rw [eq1]
    exact QR.ill T1 (Nat.le_refl _) I ⟨_, rfl⟩ (by omega)
theorem sp_readPlaceOrStretch {er : Nat} (hG : mv_ok G) (hX : mv_okX l G) (H : QS G h r c s t p) (he : 2 ≤ er) (hd : 10 ≤ d) : mv_rq l G mX5_readPlaceOrStretch (d + 1) 0 (mv_in [.ref r] 3) [] h (QR G h r c s t p (nn (hSel G lo)) 3 0 er (rB (rdN t 3 p) fun v p1 => if lk t p1 = 58 then qStr t true v p1 else .inl ((sPlace v, true), p1))) := by
  obtain ⟨hw, hb⟩ := H.wf
  obtain ⟨d, rfl⟩ : ∃ d', d = d' + 1 := ⟨d - 1, by omega⟩
  refine v_X5_readPlaceOrStretch hG ?_
  unfold w_X5_readPlaceOrStretch
  refine qNumb hG hX H (by omega) (fun v p' e h1 T1 e1 => qLok hG T1.1 (by omega) ?_) (fun w e q h1 I e1 => ?_)
  · have hlt := rdN_lt (lim := 2) e
    rw [show (nI (lk t p') = 58) = (lk t p' = 58) from nIlk T1.1 (k := 58) (by omega), e]
    show vif (lk t p' = 58) _ _
    refine vif_of (fun c1 => ?_) (fun c1 => ?_)
    · obtain ⟨fs, hr⟩ := T1.1.rd
      refine vob_of hr ?_
      refine (sp_readStretch (lo := lo) (er := er) (hf := true) hG hX T1.1 (rdN_sm e) he (by omega)).mono fun o h2 hq => ?_
      show vB _ _ _ _
      have eq1 : (rB (.inl (v, p')) fun v p1 => if lk t p1 = 58 then qStr t true v p1 else .inl ((sPlace v, true), p1)) = qStr t true v p' := by
        show (if lk t p' = 58 then _ else _) = _
        rw [if_pos c1]
      rw [eq1]
      cases hx : qStr t true v p' with
      | inl x =>
        obtain ⟨x, p2⟩ := x
        rw [hx] at hq
        obtain ⟨a, ho, T2, P2, b2⟩ := hq
        refine Or.inl ⟨a, ho, a, rfl, T1.tr T2, ?_, by omega⟩
        rw [← e1]; exact P2
      | inr w =>
        rw [hx] at hq
        obtain ⟨⟨q, ho⟩, I, b2⟩ := hq
        exact Or.inr ⟨_, ho, ⟨_, rfl⟩, I.tr T1.2.1, by omega⟩
    · obtain ⟨z, z1, z2⟩ := T1.1.2.2.2.1.2.2.1
      refine vnw_of (vU_of (sp_sInit hG hn_s T1.1.wf.2 z1) ?_)
      rw [mv_set_new]
      refine vpu_of hn_s T1.1.wf.2 (show 2 < 9 by decide) rfl ?_
      rw [mv_set_new]
      have eq1 : (rB (.inl (v, p')) fun v p1 => if lk t p1 = 58 then qStr t true v p1 else .inl ((sPlace v, true), p1)) = .inl ((sPlace v, true), p') := by
        show (if lk t p' = 58 then _ else _) = _
        rw [if_neg c1]
      rw [eq1]
      refine ⟨h1.1, rfl, T1.new (by omega) (fun fs w => by simp at w), ⟨?_, Nat.lt_succ_self _, 2, z, v, 0, 1, 0, 0, none, hn_s, Or.inr (Or.inr (Or.inl ⟨rfl, rdN_sm e, rfl⟩))⟩, ?_⟩
      · omega
      · show h1.1 + 1 + 5 * p + 3 ≤ _
        omega
  · rw [e]
    exact QR.ill H.st (Nat.le_refl _) I ⟨_, rfl⟩ (by omega)
end QD
