/-! the finder: values, conditions, every level -/
section FL
variable {l : Launch} {G : mv_G} {d f A e dd : Nat} {t : List Nat} {D : dS} {lo : Option HV} {g : Nat → Nat}
/-- a cell of the query is changed -/
theorem FS.val {h : mv_H} {kk : Int32} {c ci x y : Nat} {fs : List Value} {v : va_E} (H : FS G h f A t D kk) (hc : f + 22 ≤ c ∧ A + 83 ≤ c) (h0 : h.2.2 c = some (.inr (ci, fs))) (hn : ci ≠ 0) (hv : ∀ fs, v ≠ .inr (0, fs)) (hx : x ≤ c ∧ c < y) : FS G (mv_set h c v) f A t D kk ∧ FX G h (mv_set h c v) f e x y := by
  obtain ⟨a1, ⟨g, a2, a3⟩, a4, a5, a6, a7, z, a8, a9⟩ := H
  have kt : ksT G h (mv_set h c v) := ksT.set h0 (nTx_o hn) hv
  exact ⟨⟨by rw [hs_n (by omega)]; exact a1, ⟨g, by rw [hs_n (by omega)]; exact a2, a3⟩, fun i hi => (a4 i hi).elim fun r hr => ⟨r, hr.fr (hs_n (by omega)) (hs_n (by omega))⟩, a5.m (fun q x1 x2 => hs_n (by omega)) (fun s t hs => kt.s hs), ⟨mv_wf_set a6.1 h0, a6.2⟩, a7, z, a8, kt.s a9⟩, ⟨⟨rfl, rfl⟩, fun q q1 q2 q3 => hs_n (by omega), kt⟩⟩
theorem EV.fail {h h1 h2 : mv_H} {x y k : Nat} {Pr : mv_H → Prop} {β : Type} {z : eR β} {V : β → mv_O → mv_H → Prop} {o : mv_O} {q : Nat} {kk : Int32} (hb : bad k z) (ho : o = .inr (xUO, q)) (hh : h1 = thr h2) (H : FS G h2 f A t D kk) (F : FX G h h2 f e x y) (P : Pr h2) : EV G h f A t D e x y Pr k z V o h1 := Or.inr ⟨hb, ⟨q, ho⟩, h2, kk, hh, H, F, P⟩
theorem vOK.fx {h h1 : mv_H} {x y x' y' e' : Nat} {v : Option vQ} {r : Option Nat} (V : vOK G h A D x y v r) (F : FX G h h1 f e' x' y') (hs : y ≤ x' ∨ y' ≤ x) (hf : f + 22 ≤ x) : vOK G h1 A D x y v r := by
  cases v with
  | none => exact V
  | some w =>
    cases w with
    | inl m => exact V
    | inr w =>
      obtain ⟨q, sr, nu, nm, ou, pl, af, be, en, v1, v2, v3, v4, v5, v6⟩ := V
      exact ⟨q, sr, nu, nm, ou, pl, af, be, en, v1, v2, v3, by rw [F.2.1 q (by omega) (by omega) (by omega)]; exact v4, F.2.2.s v5, v6⟩
theorem vOK.mn {h : mv_H} {x y x' y' : Nat} {v : Option vQ} {r : Option Nat} (V : vOK G h A D x y v r) (hx : x' ≤ x) (hy : y ≤ y') : vOK G h A D x' y' v r := by
  cases v with
  | none => exact V
  | some w =>
    cases w with
    | inl m => exact V
    | inr w =>
      obtain ⟨q, sr, nu, nm, ou, pl, af, be, en, v1, v2, v3, v4⟩ := V
      exact ⟨q, sr, nu, nm, ou, pl, af, be, en, v1, by omega, by omega, v4⟩
/-- what a thing is worth -/
theorem sp_valueOf {n a x y k : Nat} {v : dThg} {h : mv_H} (hG : mv_ok G) (hX : mv_okX l G) (hT : mv_t G 0 ≠ mv_t G 1) (hW : dW t D) (hI : dI t g D) (hL : hLo G lo) (hO : LFo l G f A t D lo e dd) (hn : n < D.1) (he : e ≤ 4) (hd : dd + 7 ≤ d) (hd9 : 13 ≤ d) (hs : f + 22 ≤ x ∧ A + 83 ≤ x) (H : FS G h f A t D (nI k)) (hk : k ≤ 1000000) (P : kThg G lo h x y a v) :
    mv_rq l G mX3_valueOf (d + 1) 0 (mv_in [.ref f, .ref a, .int (nI n), .int (nI e)] 5) [] h (EV G h f A t D e x y (fun h1 => kThg G lo h1 x y a v) k (v D n) (fun w o h1 => ∃ r, o = .inl (some (va_rf r)) ∧ vOK G h1 A D x y w r)) := by
  have h40 := hI.1.1
  have hPF := kPth_fr (G := G) hL
  obtain ⟨d, rfl⟩ : ∃ d', d = d' + 1 := ⟨d - 1, by omega⟩
  obtain ⟨a1, a2, kd, pa, inn, b1, vk, vs, sr, nu, nm, ou, pl, af, be, en, b2, b3⟩ := id P
  have hbase : G.2.2.1 ≤ a + 1 := by have := H.2.2.2.2.2.1.2; omega
  refine v_X3_valueOf hG ?_
  unfold w_X3_valueOf
  refine vob_of H.1 (vU_of (sp_rbl (kk := 0) hG hX he (by omega)) (vgi_of b1 rfl ?_))
  rcases b3 with ⟨kz, tx, z1, z2, z3⟩ | ⟨kz, b, p, z1, z2, z3⟩ | ⟨kz, b, w, L, z1, z2, z3, z4⟩ | ⟨kz, b, p, L, z1, z2, z3, z4⟩
  · rw [kz]
    refine vif_n (by decide) (vif_n (by decide) (vif_n (by decide) (vgb_of b1 rfl (Or.inl ⟨some (.inr (vk, vs, tx)), 0, by rw [z3]; rfl, hk, ⟨some (a + 1), rfl, a + 1, sr, nu, nm, ou, pl, af, be, en, rfl, by omega, by omega, b2, z1, z2⟩, H, FX.rf, P⟩))))
  · rw [z1] at b1
    rw [kz]
    refine vif_y rfl (vgb_of b1 rfl (vob_of H.1 ((sp_follow hG hX hT hW hI hL hO hn he (by omega) (by omega) hs H hk z2).mono fun o h1 hq => ?_)))
    have conv : ∀ h1, FX G h h1 f e x a → kPth G lo h1 x a b p → kThg G lo h1 x y a v := fun h1 F1 Q1 => ⟨a1, a2, kd, some b, inn, by rw [F1.2.1 a (by omega) (by omega) (by omega)]; exact b1, vk, vs, sr, nu, nm, ou, pl, af, be, en, by rw [F1.2.1 (a + 1) (by omega) (by omega) (by omega)]; exact b2, Or.inr (Or.inl ⟨kz, b, p, rfl, Q1, z3⟩)⟩
    have ev : v D n = eB (p.1 D n) fun r => some (r.head?.map .inl, 0) := by rw [z3]; rfl
    rw [ev]
    rcases hq with ⟨r, j, q1, q2, ⟨i, i1, i2, i3⟩, q4, q5, q6⟩ | ⟨q1, ⟨q, q2⟩, h', kk', q3, q4, q5, q6⟩
    · refine Or.inl ⟨_, i2, ?_⟩
      have rl := i3.1.2.2.1
      obtain ⟨r1, ⟨fb, r2, r3⟩, _⟩ := id i3.1
      refine vgi_of r1 rfl (vif_of (fun c => ?_) (fun c => ?_))
      · have : r.length = 0 := by
          have := (nI_leI (b := 0) (by omega) (by omega)).mp c
          omega
        have er : r = [] := List.length_eq_zero_iff.mp this
        exact Or.inl ⟨none, j + 0, eB_j q1 (by rw [er]; rfl), q2, ⟨none, rfl, rfl⟩, q4, q5.mn (Nat.le_refl _) (Nat.le_refl _) (by omega), conv h1 q5 q6⟩
      · have hlt : 0 < r.length := by
          have : ¬ r.length ≤ 0 := fun z => c ((nI_leI (b := 0) (by omega) (by omega)).mpr z)
          omega
        have hm : lk r 0 < D.1 := i3.2 _ (lk_in hlt)
        refine q4.doc ?_
        obtain ⟨s0, V0, I0, hdc0, _⟩ := id q4.dh
        obtain ⟨hA, ⟨fn, f1, f2⟩, _⟩ := hdc0
        refine vgb_of hA rfl (vgb_of r1 rfl (vai_of (j := 0) r2 rfl (by omega) (by omega) ?_))
        rw [r3 0 hlt]
        refine vab_of f1 rfl (show lk r 0 < 40 by omega) (by omega) (f2 _ (by omega)) ?_
        have er : r.head? = some (lk r 0) := by
          cases r with
          | nil => simp at hlt
          | cons c r => rfl
        exact Or.inl ⟨some (.inl (lk r 0)), j + 0, eB_j q1 (by rw [er]; rfl), q2, ⟨some (A + 43 + lk r 0), rfl, rfl, hm⟩, q4, q5.mn (Nat.le_refl _) (Nat.le_refl _) (by omega), conv h1 q5 q6⟩
    · exact Or.inr ⟨_, q2, EV.fail q1.b1 rfl q3 q4 (q5.mn (Nat.le_refl _) (Nat.le_refl _) (by omega)) (conv h' q5 q6)⟩
  · rw [z1] at b1
    rcases hO with z | ⟨L', z5, hLF, hNN, he4⟩
    · rw [z] at z2; cases z2
    · rw [z5] at z2
      cases z2
      rw [kz]
      refine vif_n (by decide) (vif_y rfl (vgb_of b1 rfl (vob_of H.1 ?_)))
      rw [nI_1]
      have hs' : f + 22 ≤ a + 2 ∧ A + 83 ≤ a + 2 := ⟨by omega, by omega⟩
      refine (hLF.2.2 n hn _ h k b (a + 2) y w (by omega) H hk hs' z3).mono fun o h1 hq => ?_
      have ev : v D n = eB (w D n) fun v => some (match v with | none => none | some x => if vkd D x < 4 then none else some (.inr (3, vsz D x, [])), 0) := by rw [z4]; rfl
      rw [ev]
      have cell : ∀ h1, FX G h h1 f (e + 1) (a + 2) y → h1.2.2 a = some (cThg kd pa (some b) (a + 1)) ∧ h1.2.2 (a + 1) = some (valE vk vs sr nu nm ou pl af be en) := fun h1 F1 => ⟨by rw [F1.2.1 a (by omega) (by omega) (by omega)]; exact b1, by rw [F1.2.1 (a + 1) (by omega) (by omega) (by omega)]; exact b2⟩
      have conv : ∀ h1, FX G h h1 f (e + 1) (a + 2) y → L.2.2 h1 (a + 2) y b w → kThg G lo h1 x y a v := fun h1 F1 Q1 => ⟨a1, a2, kd, pa, some b, (cell h1 F1).1, vk, vs, sr, nu, nm, ou, pl, af, be, en, (cell h1 F1).2, Or.inr (Or.inr (Or.inl ⟨kz, b, w, L, rfl, z5, Q1, z4⟩))⟩
      rcases hq with ⟨u, j, q1, q2, ⟨r, r1, r2⟩, q4, q5, q6⟩ | ⟨q1, ⟨q, q2⟩, h', kk', q3, q4, q5, q6⟩
      · obtain ⟨c1, c2⟩ := cell h1 q5
        have F1 : FX G h h1 f e x y := q5.mn (by omega) (by omega) (Nat.le_refl _)
        refine Or.inl ⟨r, r1, vgb_of c1 rfl ?_⟩
        refine (v_X3_lengthOf hG ?_ : mv_rq l G mX3_lengthOf (d + 1) 0 (mv_in [va_rf r, .ref (a + 1)] 2) [] h1 _)
        unfold w_X3_lengthOf
        cases u with
        | none =>
          have er : r = none := r2
          rw [er]
          exact vnl_y (Or.inl ⟨none, rfl, Or.inl ⟨none, j + 0, eB_j q1 rfl, q2, ⟨none, rfl, rfl⟩, q4, F1, conv h1 q5 q6⟩⟩)
        | some u =>
          obtain ⟨qa, s1, n1, m1, o1, p1, a1', b1', e1, y1, y2, y3⟩ := r2.c q4.dh h40
          rw [y1]
          refine ⟨fun z => (by cases z), fun q' hq' => ?_⟩
          cases hq'
          refine vgi_of y2 rfl (vif_of (fun c => ?_) (fun c => ?_))
          · obtain ⟨zz, zl, zs⟩ := q4.2.2.2.2.2.2
            refine vgi_of y2 rfl (vst_of zl (vob_of c2 (vU_of (sp_become hG c2 hbase (by omega)) ?_)))
            obtain ⟨S2, F2⟩ := q4.val (e := e) (x := x) (y := y) (v := valE 3 (vsz D u) zz nu nm ou pl af be en) (c := a + 1) ⟨by omega, by omega⟩ c2 (by decide) (fun fs z => by simp at z) ⟨by omega, by omega⟩
            have Q2 : L.2.2 (mv_set h1 (a + 1) (valE 3 (vsz D u) zz nu nm ou pl af be en)) (a + 2) y b w := (hL L z5).2.2.1 _ _ _ _ _ _ q6 (fun q x1 x2 => hs_n (by omega)) (str_set c2 (by decide))
            refine Or.inl ⟨some (a + 1), rfl, Or.inl ⟨some (.inr (3, vsz D u, [])), j + 0, eB_j q1 ?_, q2, ⟨some (a + 1), rfl, a + 1, zz, nu, nm, ou, pl, af, be, en, rfl, by omega, by omega, hs_s, str_set c2 (by decide) _ _ zs, ?_⟩, S2, F1.tr F2, ⟨a1, a2, kd, pa, some b, by rw [hs_n (by omega)]; exact c1, 3, vsz D u, zz, nu, nm, ou, pl, af, be, en, hs_s, Or.inr (Or.inr (Or.inl ⟨kz, b, w, L, rfl, z5, Q2, z4⟩))⟩⟩⟩
            · show some ((if vkd D u < 4 then (none : Option vQ) else some (Sum.inr (3, vsz D u, []))), 0) = _
              rw [if_neg (Int32.not_lt.mpr c)]
            · exact fun hb => hb.elim (fun z => absurd (show (3 : Int32) = 5 from z) (by decide)) (fun z => absurd (show (3 : Int32) = 6 from z) (by decide))
          · refine Or.inl ⟨none, rfl, Or.inl ⟨none, j + 0, eB_j q1 ?_, q2, ⟨none, rfl, rfl⟩, q4, F1, conv h1 q5 q6⟩⟩
            show some ((if vkd D u < 4 then (none : Option vQ) else some (Sum.inr (3, vsz D u, []))), 0) = _
            rw [if_pos (Int32.not_le.mp c)]
      · exact Or.inr ⟨_, q2, EV.fail q1.b1 rfl q3 q4 (q5.mn (by omega) (by omega) (Nat.le_refl _)) (conv h' q5 q6)⟩
  · rw [z1] at b1
    rcases hO with z | ⟨L', z5, hLF, hNN, he4⟩
    · rw [z] at z2; cases z2
    · rw [z5] at z2
      cases z2
      rw [kz]
      refine vif_n (by decide) (vif_n (by decide) (vif_y rfl (vgb_of b1 rfl (vgb_of b1 rfl (vob_of H.1 ?_)))))
      rw [nI_1]
      have hs' : f + 22 ≤ a + 2 ∧ A + 83 ≤ a + 2 := ⟨by omega, by omega⟩
      refine (hLF.2.1 n hn _ h k b (a + 2) y p (by omega) H hk hs' z3).mono fun o h1 hq => ?_
      have ev : v D n = eB (p.1 D n) fun r => some (some (.inr (3, nI r.length, [])), 0) := by rw [z4]; rfl
      rw [ev]
      have cell : ∀ h1, FX G h h1 f (e + 1) (a + 2) y → h1.2.2 a = some (cThg kd (some b) inn (a + 1)) ∧ h1.2.2 (a + 1) = some (valE vk vs sr nu nm ou pl af be en) := fun h1 F1 => ⟨by rw [F1.2.1 a (by omega) (by omega) (by omega)]; exact b1, by rw [F1.2.1 (a + 1) (by omega) (by omega) (by omega)]; exact b2⟩
      rcases hq with ⟨r, j, q1, q2, ⟨i, i1, i2, i3⟩, q4, q5, q6⟩ | ⟨q1, ⟨q, q2⟩, h', kk', q3, q4, q5, q6⟩
      · obtain ⟨c1, c2⟩ := cell h1 q5
        have F1 : FX G h h1 f e x y := q5.mn (by omega) (by omega) (Nat.le_refl _)
        obtain ⟨zz, zl, zs⟩ := q4.2.2.2.2.2.2
        refine Or.inl ⟨_, i2, vgi_of i3.1.1 rfl (vst_of zl (vob_of c2 (vU_of (sp_become hG c2 hbase (by omega)) ?_)))⟩
        obtain ⟨S2, F2⟩ := q4.val (e := e) (x := x) (y := y) (v := valE 3 (nI r.length) zz nu nm ou pl af be en) (c := a + 1) ⟨by omega, by omega⟩ c2 (by decide) (fun fs z => by simp at z) ⟨by omega, by omega⟩
        have Q2 : L.2.1 (mv_set h1 (a + 1) (valE 3 (nI r.length) zz nu nm ou pl af be en)) (a + 2) y b p := (hL L z5).2.1.1 _ _ _ _ _ _ q6 (fun q x1 x2 => hs_n (by omega)) (str_set c2 (by decide))
        have c1' : (mv_set h1 (a + 1) (valE 3 (nI r.length) zz nu nm ou pl af be en)).2.2 a = some (cThg kd (some b) inn (a + 1)) := by rw [hs_n (by omega)]; exact c1
        refine vgb_of c1' rfl (Or.inl ⟨some (.inr (3, nI r.length, [])), j + 0, eB_j q1 rfl, q2, ⟨some (a + 1), rfl, a + 1, zz, nu, nm, ou, pl, af, be, en, rfl, by omega, by omega, hs_s, str_set c2 (by decide) _ _ zs, ?_⟩, S2, F1.tr F2, ⟨a1, a2, kd, some b, inn, c1', 3, nI r.length, zz, nu, nm, ou, pl, af, be, en, hs_s, Or.inr (Or.inr (Or.inr ⟨kz, b, p, L, rfl, z5, Q2, z4⟩))⟩⟩)
        exact fun hb => hb.elim (fun z => absurd (show (3 : Int32) = 5 from z) (by decide)) (fun z => absurd (show (3 : Int32) = 6 from z) (by decide))
      · obtain ⟨c1, c2⟩ := cell h' q5
        exact Or.inr ⟨_, q2, EV.fail q1.b1 rfl q3 q4 (q5.mn (by omega) (by omega) (Nat.le_refl _)) ⟨a1, a2, kd, some b, inn, c1, vk, vs, sr, nu, nm, ou, pl, af, be, en, c2, Or.inr (Or.inr (Or.inr ⟨kz, b, p, L, rfl, z5, q6, z4⟩))⟩⟩
end FL
