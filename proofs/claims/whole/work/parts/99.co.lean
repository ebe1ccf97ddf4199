section AL
variable {l : Launch} {G : mv_G} {d a b y z : Nat} {h h0 : mv_H} {r c s : Nat} {t : List Nat} {p : Nat} {lo : Option HV}
theorem hOL.last {α : Type} {E : HE α} {ci k : Nat} (hN : hNx ci k E) {ds : List α} {x y : Nat} {fr la : Option Nat} (H : hOL E h ds x y fr la) : ∀ q, la = some q → x ≤ q ∧ q < y ∧ ∃ fs, h.2.2 q = some (.inr (ci, fs)) ∧ k < fs.length := fun q hq => by
  rcases H with ⟨_, _, e, _⟩ | ⟨i, d, a, mm, e1, e2, e3, e4, e5, e6⟩
  · rw [e] at hq; cases hq
  · rw [e6] at hq; cases hq
    obtain ⟨x1, x2, fs, x3, x4, _⟩ := hN _ _ _ _ _ _ e5
    refine ⟨by omega, x2, fs, x3, ?_⟩
    rcases Nat.lt_or_ge k fs.length with w | w
    · exact w
    · rw [List.getElem?_eq_none w] at x4; cases x4
theorem len_of {fs : List Value} {k : Nat} {v : Value} (h : fs[k]? = some v) : k < fs.length := by
  rcases Nat.lt_or_ge k fs.length with w | w
  · exact w
  · rw [List.getElem?_eq_none w] at h; cases h
/-- a test gets one more part -/
theorem sp_tAddL {kd rel : Int32} {fr la nx pa le ri : Option Nat} {E : HE dCnd} {ds : List dCnd} {e : dCnd} (hG : mv_ok G) (hE : hFr G E) (hN : hNx 11 3 E) (ha : h.2.2 a = some (cTst kd fr la nx pa le rel ri)) (H : hOL E h ds (a + 1) y fr la) (hA : E h y z b (none, e)) (hz : y ≤ z) (A : QT G h0 h r c s t p) (h0a : h0.1 ≤ a) : mv_rq l G mX9_add d 0 (mv_in [.ref a, .ref b] 2) [] h (fun o h1 => o = .inl none ∧ QT G h0 h1 r c s t p ∧ (h1.1 = h.1 ∧ ∀ q, (q < a ∨ z ≤ q) → h1.2.2 q = h.2.2 q) ∧ ∃ fr', h1.2.2 a = some (cTst kd fr' (some b) nx pa le rel ri) ∧ hOL E h1 (ds ++ [e]) (a + 1) z fr' (some b) ∧ (ds = [] → fr' = some b)) := by
  have hb0 : G.2.2.1 ≤ a := by have := A.2.2.2; have := A.1.2.2.2.2.1.2; omega
  have hxy := H.le
  refine (sp_tAdd hG ha hb0 (fun x hx => ?_)).mono fun o h1 hq => ?_
  · obtain ⟨y1, y2, fs, y3, y4⟩ := H.last hN x hx
    exact ⟨by omega, by omega, fs, y3, y4⟩
  · obtain ⟨ho, q1, q2⟩ := hq
    refine ⟨ho, ?_⟩
    cases hla : la with
    | none =>
      have e1 := q1 hla
      subst e1
      have m : ∀ s t, mv_str G h s t → mv_str G (mv_set h a (cTst kd (some b) (some b) nx pa le rel ri)) s t := str_set ha (by decide)
      have := H.add hE hN (by decide) hA hz (h2 := mv_set h a (cTst kd (some b) (some b) nx pa le rel ri)) ⟨fun _ q x1 x2 => hs_n (by omega), fun l hl => by rw [hla] at hl; cases hl⟩ m
      rw [if_pos hla] at this
      refine ⟨A.set h0a ha (by decide) (fun fs w => by simp at w), ⟨rfl, fun q hq => hs_n (by omega)⟩, some b, hs_s, this, fun _ => rfl⟩
    | some x =>
      obtain ⟨y1, y2, fs, y3, y4⟩ := H.last hN x hla
      have e1 := q2 x fs hla y3
      subst e1
      have A1 : QT G h0 (mv_set h x (.inr (11, fs.set 3 (.ref b)))) r c s t p := A.set (by omega) y3 (by decide) (fun fs w => by simp at w)
      have ha1 : (mv_set h x (.inr (11, fs.set 3 (.ref b)))).2.2 a = some (cTst kd fr la nx pa le rel ri) := by rw [hs_n (by omega)]; exact ha
      have m1 : ∀ s t, mv_str G h s t → mv_str G (mv_set h x (.inr (11, fs.set 3 (.ref b)))) s t := str_set y3 (by decide)
      have m2 : ∀ s t, mv_str G h s t → mv_str G (mv_set (mv_set h x (.inr (11, fs.set 3 (.ref b)))) a (cTst kd fr (some b) nx pa le rel ri)) s t := fun s t hs => str_set ha1 (by decide) s t (m1 s t hs)
      have := H.add hE hN (by decide) hA hz (h2 := mv_set (mv_set h x (.inr (11, fs.set 3 (.ref b)))) a (cTst kd fr (some b) nx pa le rel ri)) ⟨fun w => (by rw [hla] at w; cases w), fun l hl => by
        rw [hla] at hl; cases hl
        exact ⟨fs, y3, fun q x1 x2 => hs_n (by omega)⟩⟩ m2
      rw [hla, if_neg (by simp)] at this
      refine ⟨A1.set h0a ha1 (by decide) (fun fs w => by simp at w), ⟨rfl, fun q hq => by rw [hs_n (by omega), hs_n (by omega)]⟩, fr, hs_s, this, fun w => ?_⟩
      rcases H with ⟨_, _, e, _⟩ | ⟨i, dd, aa, mm, e1, _⟩
      · rw [e] at hla; cases hla
      · rw [w] at e1
        exact absurd e1.symm (by simp)
/-- a segment gets one more selector -/
theorem sp_gAddL {bw : Int32} {fr la nx : Option Nat} {E : HE (dSel × Bool)} {ds : List (dSel × Bool)} {e : dSel × Bool} (hG : mv_ok G) (hE : hFr G E) (hN : hNx 10 8 E) (ha : h.2.2 a = some (cSeg bw fr la nx)) (H : hOL E h ds (a + 1) y fr la) (hA : E h y z b (none, e)) (hz : y ≤ z) (A : QT G h0 h r c s t p) (h0a : h0.1 ≤ a) : mv_rq l G mX7_add d 0 (mv_in [.ref a, .ref b] 2) [] h (fun o h1 => o = .inl none ∧ QT G h0 h1 r c s t p ∧ (h1.1 = h.1 ∧ ∀ q, (q < a ∨ z ≤ q) → h1.2.2 q = h.2.2 q) ∧ ∃ fr', h1.2.2 a = some (cSeg bw fr' (some b) nx) ∧ hOL E h1 (ds ++ [e]) (a + 1) z fr' (some b)) := by
  have hb0 : G.2.2.1 ≤ a := by have := A.2.2.2; have := A.1.2.2.2.2.1.2; omega
  have hxy := H.le
  refine (sp_gAdd hG ha hb0 (fun x hx => ?_)).mono fun o h1 hq => ?_
  · obtain ⟨y1, y2, fs, y3, y4⟩ := H.last hN x hx
    exact ⟨by omega, by omega, fs, y3, y4⟩
  · obtain ⟨ho, q1, q2⟩ := hq
    refine ⟨ho, ?_⟩
    cases hla : la with
    | none =>
      have e1 := q1 hla
      subst e1
      have m : ∀ s t, mv_str G h s t → mv_str G (mv_set h a (cSeg bw (some b) (some b) nx)) s t := str_set ha (by decide)
      have := H.add hE hN (by decide) hA hz (h2 := mv_set h a (cSeg bw (some b) (some b) nx)) ⟨fun _ q x1 x2 => hs_n (by omega), fun l hl => by rw [hla] at hl; cases hl⟩ m
      rw [if_pos hla] at this
      refine ⟨A.set h0a ha (by decide) (fun fs w => by simp at w), ⟨rfl, fun q hq => hs_n (by omega)⟩, some b, hs_s, this⟩
    | some x =>
      obtain ⟨y1, y2, fs, y3, y4⟩ := H.last hN x hla
      have e1 := q2 x fs hla y3
      subst e1
      have A1 : QT G h0 (mv_set h x (.inr (10, fs.set 8 (.ref b)))) r c s t p := A.set (by omega) y3 (by decide) (fun fs w => by simp at w)
      have ha1 : (mv_set h x (.inr (10, fs.set 8 (.ref b)))).2.2 a = some (cSeg bw fr la nx) := by rw [hs_n (by omega)]; exact ha
      have m1 : ∀ s t, mv_str G h s t → mv_str G (mv_set h x (.inr (10, fs.set 8 (.ref b)))) s t := str_set y3 (by decide)
      have m2 : ∀ s t, mv_str G h s t → mv_str G (mv_set (mv_set h x (.inr (10, fs.set 8 (.ref b)))) a (cSeg bw fr (some b) nx)) s t := fun s t hs => str_set ha1 (by decide) s t (m1 s t hs)
      have := H.add hE hN (by decide) hA hz (h2 := mv_set (mv_set h x (.inr (10, fs.set 8 (.ref b)))) a (cSeg bw fr (some b) nx)) ⟨fun w => (by rw [hla] at w; cases w), fun l hl => by
        rw [hla] at hl; cases hl
        exact ⟨fs, y3, fun q x1 x2 => hs_n (by omega)⟩⟩ m2
      rw [hla, if_neg (by simp)] at this
      refine ⟨A1.set h0a ha1 (by decide) (fun fs w => by simp at w), ⟨rfl, fun q hq => by rw [hs_n (by omega), hs_n (by omega)]⟩, fr, hs_s, this⟩
/-- a segment that finds one node at most -/
theorem sp_single {x y nx} {e : (Bool × List dSel) × Bool} (hG : mv_ok G) (hL : hLo G lo) (H : hSeg G lo h x y b (nx, e)) : mv_rq l G mX7_isSingle d 0 (mv_in [.ref b] 1) [] h (fun o h1 => o = .inl (some (.int (b2i e.2))) ∧ h = h1) := by
  obtain ⟨a1, a2, fr, la, ss, b1, b2, b3, b4⟩ := H
  refine v_X7_isSingle hG ?_
  unfold w_X7_isSingle
  refine vgi_of b1 rfl ?_
  have b4' : e.2 = (!e.1.1 && ss.length == 1 && ss.all (·.2)) := b4
  show vif (b2i e.1.1 = 0) _ _
  cases hb : e.1.1 with
  | true =>
    refine vif_n (by decide) ⟨?_, rfl⟩
    rw [b4', hb]; rfl
  | false =>
    rw [hb] at b4'
    refine vif_y rfl (vgr_of b1 rfl ?_)
    rcases b2 with ⟨rfl, rfl, rfl, _⟩ | ⟨i, d0, q, mm, rfl, e2, e3, e4, e5, rfl⟩
    · refine vnl_y ⟨?_, rfl⟩
      rw [b4']; rfl
    · cases i with
      | nil =>
        obtain ⟨rfl, _⟩ := e2
        obtain ⟨c1, c2, kd, nm, f, to, st, hf, ht, cd, g1, g2⟩ := e5
        refine ⟨fun w => (by cases w), fun w hw => vgr_of b1 rfl (vgr_of b1 rfl (vif_y rfl (vgr_of b1 rfl (vnn_of (vgi_of g1 rfl ?_)))))⟩
        have e0 : e.2 = d0.2 := by rw [b4']; simp
        rw [e0]
        rcases g2 with ⟨k0, u, z1, z2⟩ | ⟨k0, z2⟩ | ⟨k0, _, z2⟩ | ⟨k0, _, _, _, _, _, z2⟩ | ⟨k0, _, _, _, _, _, _, z2⟩
        · have z3 : d0 = _ := z2
          rw [k0, z3]; exact vif_y rfl ⟨rfl, rfl⟩
        · have z3 : d0 = _ := z2
          rw [k0, z3]; exact vif_n (by decide) (vgr_of b1 rfl (vnn_of (vgi_of g1 rfl (by rw [k0]; exact vif_n (by decide) ⟨rfl, rfl⟩))))
        · have z3 : d0 = _ := z2
          rw [k0, z3]; exact vif_n (by decide) (vgr_of b1 rfl (vnn_of (vgi_of g1 rfl (by rw [k0]; exact vif_y rfl ⟨rfl, rfl⟩))))
        · have z3 : d0 = _ := z2
          rw [k0, z3]; exact vif_n (by decide) (vgr_of b1 rfl (vnn_of (vgi_of g1 rfl (by rw [k0]; exact vif_n (by decide) ⟨rfl, rfl⟩))))
        · have z3 : d0 = _ := z2
          rw [k0, z3]; exact vif_n (by decide) (vgr_of b1 rfl (vnn_of (vgi_of g1 rfl (by rw [k0]; exact vif_n (by decide) ⟨rfl, rfl⟩))))
      | cons d1 i =>
        obtain ⟨q0, m0, nx0, rfl, k1, k2, k3⟩ := e2
        have hle := k3.le
        obtain ⟨_, k4, _⟩ := hSel_nx hL _ _ _ _ _ _ k2
        obtain ⟨k5, _, _⟩ := hSel_nx hL _ _ _ _ _ _ e5
        refine ⟨fun w => (by cases w), fun w hw => vgr_of b1 rfl (vgr_of b1 rfl (vif_n (fun w => ?_) ⟨?_, rfl⟩))⟩
        · cases w; omega
        · have e0 : e.2 = false := by rw [b4']; simp
          rw [e0]; rfl
/-- a path gets one more segment -/
theorem sp_pAddL {rt : Int32} {fr la : Option Nat} {ss : List ((Bool × List dSel) × Bool)} {e : (Bool × List dSel) × Bool} (hG : mv_ok G) (hL : hLo G lo) (ha : h.2.2 a = some (cPth rt fr la (nI ss.length) (b2i (ss.all (·.2))))) (H : hOL (hSeg G lo) h ss (a + 1) y fr la) (hA : hSeg G lo h y z b (none, e)) (hz : y ≤ z) (A : QT G h0 h r c s t p) (h0a : h0.1 ≤ a) : mv_rq l G mX4_add (d + 1) 0 (mv_in [.ref a, .ref b] 2) [] h (fun o h1 => o = .inl none ∧ QT G h0 h1 r c s t p ∧ (h1.1 = h.1 ∧ ∀ q, (q < a ∨ z ≤ q) → h1.2.2 q = h.2.2 q) ∧ ∃ fr', h1.2.2 a = some (cPth rt fr' (some b) (nI (ss ++ [e]).length) (b2i ((ss ++ [e]).all (·.2)))) ∧ hOL (hSeg G lo) h1 (ss ++ [e]) (a + 1) z fr' (some b)) := by
  have hb0 : G.2.2.1 ≤ a := by have := A.2.2.2; have := A.1.2.2.2.2.1.2; omega
  have hxy := H.le
  have hE := hSeg_fr (G := G) hL
  have hN := hSeg_nx (G := G) hL
  -- what is left once the follower is set
  have fin : ∀ (h2 : mv_H) (fr' : Option Nat), h2.2.2 a = some (cPth rt fr' la (nI ss.length) (b2i (ss.all (·.2)))) → QT G h0 h2 r c s t p → (h2.1 = h.1 ∧ ∀ q, (q < a ∨ z ≤ q) → h2.2.2 q = h.2.2 q) → hOL (hSeg G lo) h2 (ss ++ [e]) (a + 1) z fr' (some b) → hSeg G lo h2 y z b (none, e) → mv_rq l G mX4_add (d + 1) 23 [some (.ref a), some (.ref b)] [] h2 (fun o h1 => o = .inl none ∧ QT G h0 h1 r c s t p ∧ (h1.1 = h.1 ∧ ∀ q, (q < a ∨ z ≤ q) → h1.2.2 q = h.2.2 q) ∧ ∃ fr', h1.2.2 a = some (cPth rt fr' (some b) (nI (ss ++ [e]).length) (b2i ((ss ++ [e]).all (·.2)))) ∧ hOL (hSeg G lo) h1 (ss ++ [e]) (a + 1) z fr' (some b)) := by
    intro h2 fr' ha2 A2 hk HO HE'
    refine v_X4_add_23 hG ?_
    unfold w_X4_add_23
    refine vpu_of ha2 hb0 (show 2 < 5 by decide) rfl (vgi_of hs_s rfl (vpu_of hs_s hb0 (show 3 < 5 by decide) rfl (vgi_of hs_s rfl ?_)))
    rw [mv_set_set, nI_1]
    have A3 : QT G h0 (mv_set h2 a (cPth rt fr' (some b) (nI (ss.length + 1)) (b2i (ss.all (·.2))))) r c s t p := A2.set h0a ha2 (by decide) (fun fs w => by simp at w)
    have E3 : hSeg G lo (mv_set h2 a (cPth rt fr' (some b) (nI (ss.length + 1)) (b2i (ss.all (·.2))))) y z b (none, e) := hE.1 _ _ _ _ _ _ HE' (fun q x1 x2 => hs_n (by omega)) (str_set ha2 (by decide))
    have k3 : (mv_set h2 a (cPth rt fr' (some b) (nI (ss.length + 1)) (b2i (ss.all (·.2))))).1 = h.1 ∧ ∀ q, (q < a ∨ z ≤ q) → (mv_set h2 a (cPth rt fr' (some b) (nI (ss.length + 1)) (b2i (ss.all (·.2))))).2.2 q = h.2.2 q := ⟨hk.1, fun q hq => by rw [hs_n (by omega)]; exact hk.2 q hq⟩
    have O3 : hOL (hSeg G lo) (mv_set h2 a (cPth rt fr' (some b) (nI (ss.length + 1)) (b2i (ss.all (·.2))))) (ss ++ [e]) (a + 1) z fr' (some b) := HO.fr hE (fun q x1 x2 => hs_n (by omega)) (str_set ha2 (by decide))
    have ha3 : (mv_set h2 a (cPth rt fr' (some b) (nI (ss.length + 1)) (b2i (ss.all (·.2))))).2.2 a = some (cPth rt fr' (some b) (nI (ss.length + 1)) (b2i (ss.all (·.2)))) := hs_s
    rw [show ([Value.int rt, va_rf fr', va_rf la, Value.int (nI ss.length), Value.int (b2i (ss.all (·.2)))].set 2 (.ref b)).set 3 (.int (nI (ss.length + 1))) = [Value.int rt, va_rf fr', va_rf (some b), Value.int (nI (ss.length + 1)), Value.int (b2i (ss.all (·.2)))] from rfl]
    generalize mv_set h2 a (cPth rt fr' (some b) (nI (ss.length + 1)) (b2i (ss.all (·.2)))) = h3 at A3 E3 k3 O3 ha3
    have last : ∀ v : Bool, v = (ss ++ [e]).all (·.2) → mv_rq l G mX4_add (d + 1) 58 [none, none] [.int (b2i v), .ref a] h3 (fun o h1 => o = .inl none ∧ QT G h0 h1 r c s t p ∧ (h1.1 = h.1 ∧ ∀ q, (q < a ∨ z ≤ q) → h1.2.2 q = h.2.2 q) ∧ ∃ fr', h1.2.2 a = some (cPth rt fr' (some b) (nI (ss ++ [e]).length) (b2i ((ss ++ [e]).all (·.2)))) ∧ hOL (hSeg G lo) h1 (ss ++ [e]) (a + 1) z fr' (some b)) := by
      intro v hv
      refine v_X4_add_58 hG ?_
      unfold w_X4_add_58
      refine ⟨(nBb v).1, (nBb v).2, vpu_of ha3 hb0 (show 4 < 5 by decide) rfl ⟨rfl, A3.set h0a ha3 (by decide) (fun fs w => by simp at w), ⟨k3.1, fun q hq => by rw [hs_n (by omega)]; exact k3.2 q hq⟩, fr', ?_, O3.fr hE (fun q x1 x2 => hs_n (by omega)) (str_set ha3 (by decide))⟩⟩
      rw [hs_s, ← hv, List.length_append]
      rfl
    have l57 : (ss ++ [e]).all (·.2) = false → mv_rq l G mX4_add (d + 1) 57 [none, none] [.ref a] h3 (fun o h1 => o = .inl none ∧ QT G h0 h1 r c s t p ∧ (h1.1 = h.1 ∧ ∀ q, (q < a ∨ z ≤ q) → h1.2.2 q = h.2.2 q) ∧ ∃ fr', h1.2.2 a = some (cPth rt fr' (some b) (nI (ss ++ [e]).length) (b2i ((ss ++ [e]).all (·.2)))) ∧ hOL (hSeg G lo) h1 (ss ++ [e]) (a + 1) z fr' (some b)) := fun hv => by
      refine v_X4_add_57 hG ?_
      unfold w_X4_add_57
      exact last false hv.symm
    have hal : (ss ++ [e]).all (·.2) = (ss.all (·.2) && e.2) := by simp
    cases hss : ss.all (·.2) with
    | false => exact vif_y rfl (l57 (by rw [hal, hss]; rfl))
    | true =>
      obtain ⟨_, _, fs, g1, _⟩ := hN _ _ _ _ _ _ E3
      refine vif_n (by decide) (vob_of g1 (vI_of (sp_single hG hL E3) ?_))
      cases he : e.2 with
      | false => exact vif_y rfl (l57 (by rw [hal, he, Bool.and_false]))
      | true => exact vif_n (by decide) (last true (by rw [hal, hss, he]; rfl))
  refine v_X4_add hG ?_
  unfold w_X4_add
  refine vgr_of ha rfl ?_
  cases hla : la with
  | none =>
    have m : ∀ s t, mv_str G h s t → mv_str G (mv_set h a (cPth rt (some b) la (nI ss.length) (b2i (ss.all (·.2))))) s t := str_set ha (by decide)
    have := H.add hE hN (by decide) hA hz (h2 := mv_set h a (cPth rt (some b) la (nI ss.length) (b2i (ss.all (·.2))))) ⟨fun _ q x1 x2 => hs_n (by omega), fun l hl => by rw [hla] at hl; cases hl⟩ m
    rw [if_pos hla] at this
    subst hla
    refine vnl_y (vpu_of ha hb0 (show 1 < 5 by decide) rfl (fin _ (some b) hs_s (A.set h0a ha (by decide) (fun fs w => by simp at w)) ⟨rfl, fun q hq => hs_n (by omega)⟩ this (hE.1 _ _ _ _ _ _ hA (fun q x1 x2 => hs_n (by omega)) m)))
  | some x =>
    obtain ⟨y1, y2, fs, y3, y4⟩ := H.last hN x hla
    have m1 : ∀ s t, mv_str G h s t → mv_str G (mv_set h x (.inr (9, fs.set 3 (.ref b)))) s t := str_set y3 (by decide)
    have := H.add hE hN (by decide) hA hz (h2 := mv_set h x (.inr (9, fs.set 3 (.ref b)))) ⟨fun w => (by rw [hla] at w; cases w), fun l hl => by
      rw [hla] at hl; cases hl
      exact ⟨fs, y3, fun q x1 x2 => rfl⟩⟩ m1
    rw [hla, if_neg (by simp)] at this
    subst hla
    refine ⟨fun w => (by cases w), fun w hw => ?_⟩
    cases hw
    refine vgr_of ha rfl (vnn_of (vpu_of y3 (by omega) y4 rfl (fin _ fr ?_ (A.set (by omega) y3 (by decide) (fun fs w => by simp at w)) ⟨rfl, fun q hq => hs_n (by omega)⟩ this (hE.1 _ _ _ _ _ _ hA (fun q x1 x2 => hs_n (by omega)) m1))))
    rw [hs_n (by omega)]; exact ha
end AL
