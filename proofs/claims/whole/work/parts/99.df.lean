section FG
variable {l : Launch} {G : mv_G} {d f A : Nat} {t : List Nat} {D : dS} {kk : Int32} {h : mv_H}
theorem eqV_g {D : dS} {x y : vQ} (hn : ∀ i j, ¬ (x = .inl i ∧ y = .inl j)) : eqV D (some x) (some y) = (vkd D x == vkd D y && (if vkd D x = 3 then vsz D x == vsz D y else if vkd D x = 4 then vtx D x == vtx D y else true)) := by
  cases x with
  | inl i =>
    cases y with
    | inl j => exact absurd ⟨rfl, rfl⟩ (hn i j)
    | inr w => rfl
  | inr w => cases y <;> rfl
theorem sp_equalV {x1 y1 x2 y2 : Nat} {g : Nat → Nat} {v1 v2 : Option vQ} {r1 r2 : Option Nat} (hG : mv_ok G) (H : FS G h f A t D kk) (hI : dI t g D) (H1 : vOK G h A D x1 y1 v1 r1) (H2 : vOK G h A D x2 y2 v2 r2) (hs : (y1 ≤ x2 ∨ y2 ≤ x1) ∧ A + 83 ≤ x1 ∧ A + 83 ≤ x2) (hd : 18 ≤ d) : mv_rq l G mX3_equal d 0 (mv_in [.ref f, va_rf r1, va_rf r2, .int 0] 4) [] h (fun o h1 => o = .inl (some (.int (b2i (eqV D v1 v2)))) ∧ h = h1) := by
  have h40 := hI.1.1
  obtain ⟨d, rfl⟩ : ∃ d', d = d' + 2 := ⟨d - 2, by omega⟩
  cases v1 with
  | none =>
    have e1 : r1 = none := H1
    subst e1
    refine v_X3_equal hG ?_
    unfold w_X3_equal
    cases v2 with
    | none =>
      have e2 : r2 = none := H2
      subst e2
      exact vif_y rfl ⟨rfl, rfl⟩
    | some w2 =>
      obtain ⟨q2, s2, n2, m2, o2, p2, a2, b2, e2, z1, z2, z3⟩ := H2.c H.dh h40
      rw [z1]
      exact vif_n (fun z => (by cases z)) (vnl_y ⟨rfl, rfl⟩)
  | some w1 =>
    obtain ⟨q1, s1, n1, m1, o1, p1, a1, b1, e1, z1, z2, z3⟩ := H1.c H.dh h40
    cases v2 with
    | none =>
      have e2 : r2 = none := H2
      subst e2
      rw [z1]
      refine v_X3_equal hG ?_
      unfold w_X3_equal
      have e9 : eqV D (some w1) none = false := by cases w1 <;> rfl
      rw [e9]
      exact vif_n (fun z => (by cases z)) ⟨fun z => (by cases z), fun a ha => vnl_y ⟨rfl, rfl⟩⟩
    | some w2 =>
      obtain ⟨q2, s2, n2, m2, o2, p2, a2, b2, e2, y1', y2', y3'⟩ := H2.c H.dh h40
      by_cases hdd : ∃ i j, w1 = .inl i ∧ w2 = .inl j
      · obtain ⟨i, j, rfl, rfl⟩ := hdd
        obtain ⟨u1, u2⟩ := H1
        obtain ⟨u3, u4⟩ := H2
        rw [u1, u3]
        exact eqN hG H hI 7 0 i j _ rfl u2 u4 (by omega)
      · have hnd : ∀ i j, ¬ (w1 = .inl i ∧ w2 = .inl j) := fun i j z => hdd ⟨i, j, z⟩
        have hne : q1 ≠ q2 := by
          intro z
          cases w1 with
          | inl i =>
            obtain ⟨u1, u2⟩ := H1
            rw [z1] at u1
            cases u1
            cases w2 with
            | inl j => exact hnd i j ⟨rfl, rfl⟩
            | inr w =>
              obtain ⟨q, _, _, _, _, _, _, _, _, c1, c2, c3, _⟩ := H2
              rw [y1'] at c1
              cases c1
              omega
          | inr w =>
            obtain ⟨q, _, _, _, _, _, _, _, _, c1, c2, c3, _⟩ := H1
            rw [z1] at c1
            cases c1
            cases w2 with
            | inl j =>
              obtain ⟨u1, u2⟩ := H2
              rw [y1'] at u1
              cases u1
              omega
            | inr w' =>
              obtain ⟨q', _, _, _, _, _, _, _, _, c4, c5, c6, _⟩ := H2
              rw [y1'] at c4
              cases c4
              omega
        have hnb : vkd D w1 = vkd D w2 → ¬ isB (vkd D w1) := fun e hb => by
          cases w1 with
          | inl i =>
            cases w2 with
            | inl j => exact hnd i j ⟨rfl, rfl⟩
            | inr w =>
              obtain ⟨q, _, _, _, _, _, _, _, _, _, _, _, _, _, c⟩ := H2
              rw [e] at hb
              exact c hb
          | inr w =>
            obtain ⟨q, _, _, _, _, _, _, _, _, _, _, _, _, _, c⟩ := H1
            exact c hb
        rw [z1, y1', eqV_g hnd]
        refine v_X3_equal hG ?_
        unfold w_X3_equal
        refine vif_n (fun z => hne (by cases z; rfl)) ⟨fun z => (by cases z), fun a ha => ⟨fun z => (by cases z), fun b hb => ?_⟩⟩
        cases ha
        cases hb
        refine vgi_of z2 rfl (vgi_of y2' rfl (vif_of (fun ck => vif_y (by decide) (vgi_of z2 rfl ?_)) (fun ck => ⟨?_, rfl⟩)))
        · rw [show (vkd D w1 == vkd D w2) = true from by simpa using ck, Bool.true_and]
          have nb := hnb ck
          refine vif_of (fun c3 => ?_) (fun c3 => vif_of (fun c4 => ?_) (fun c4 => vif_n (fun c5 => nb (Or.inl c5)) (vif_n (fun c6 => nb (Or.inr c6)) ⟨?_, rfl⟩)))
          · rw [if_pos c3]
            refine vgi_of z2 rfl (vgi_of y2' rfl (vif_of (fun cs => ⟨?_, rfl⟩) (fun cs => ⟨?_, rfl⟩)))
            · rw [show (vsz D w1 == vsz D w2) = true from by simpa using cs]; rfl
            · rw [show (vsz D w1 == vsz D w2) = false from by simpa using cs]; rfl
          · rw [if_neg c3, if_pos c4]
            obtain ⟨_, _, _, _, ss1, _⟩ := id z3
            refine vgb_of z2 rfl (vgb_of y2' rfl (vob_of ss1 (vI_of (sp_equals hG z3 y3') ?_)))
            by_cases ct : vtx D w1 = vtx D w2
            · rw [if_pos ct, ct, beq_self_eq_true]
              exact ⟨nB1.1, rfl, rfl⟩
            · rw [if_neg ct, show (vtx D w1 == vtx D w2) = false from by simpa using ct]
              exact ⟨nB0.1, rfl, rfl⟩
          · rw [if_neg c3, if_neg c4]; rfl
        · rw [show (vkd D w1 == vkd D w2) = false from by simpa using ck]; rfl
theorem sp_compare {x1 y1 x2 y2 r : Nat} {g : Nat → Nat} {v1 v2 : Option vQ} {r1 r2 : Option Nat} (hG : mv_ok G) (H : FS G h f A t D kk) (hI : dI t g D) (H1 : vOK G h A D x1 y1 v1 r1) (H2 : vOK G h A D x2 y2 v2 r2) (hs : (y1 ≤ x2 ∨ y2 ≤ x1) ∧ A + 83 ≤ x1 ∧ A + 83 ≤ x2) (hr : r ≤ 5) (hd : 18 ≤ d) : mv_rq l G mX3_compare (d + 1) 0 (mv_in [.ref f, va_rf r1, .int (nI r), va_rf r2] 4) [] h (fun o h1 => o = .inl (some (.int (b2i (cmpV D r v1 v2)))) ∧ h = h1) := by
  have h40 := hI.1.1
  have nb := nBb
  obtain ⟨d', hd'⟩ : ∃ d', d = d' + 1 := ⟨d - 1, by omega⟩
  have eq := sp_equalV (l := l) (d := d) hG H hI H1 H2 hs hd
  have l1 : mv_rq l G mX3_less d 0 (mv_in [va_rf r1, va_rf r2] 2) [] h (fun o h1 => o = .inl (some (.int (b2i (lesV D v1 v2)))) ∧ h = h1) := by rw [hd']; exact sp_less hG H.dh h40 H1 H2 (by omega)
  have l2 : mv_rq l G mX3_less d 0 (mv_in [va_rf r2, va_rf r1] 2) [] h (fun o h1 => o = .inl (some (.int (b2i (lesV D v2 v1)))) ∧ h = h1) := by rw [hd']; exact sp_less hG H.dh h40 H2 H1 (by omega)
  refine v_X3_compare hG ?_
  unfold w_X3_compare
  match r, hr with
  | 0, _ => exact vif_y rfl (vob_of H.1 (vI_of eq ⟨(nb _).1, rfl, rfl⟩))
  | 1, _ =>
    refine vif_n (by decide) (vif_y rfl (vob_of H.1 (vI_of eq ?_)))
    have ec : cmpV D 1 v1 v2 = !eqV D v1 v2 := rfl
    rw [ec]
    cases eqV D v1 v2 with
    | true => exact vif_n (by decide) ⟨rfl, rfl⟩
    | false => exact vif_y rfl ⟨rfl, rfl⟩
  | 2, _ => exact vif_n (by decide) (vif_n (by decide) (vif_y rfl (vI_of l1 ⟨(nb _).1, rfl, rfl⟩)))
  | 3, _ =>
    refine vif_n (by decide) (vif_n (by decide) (vif_n (by decide) (vif_y rfl (vI_of l1 ?_))))
    have ec : cmpV D 3 v1 v2 = (lesV D v1 v2 || eqV D v1 v2) := rfl
    rw [ec]
    cases lesV D v1 v2 with
    | true => exact vif_n (by decide) ⟨rfl, rfl⟩
    | false =>
      refine vif_y rfl (vob_of H.1 (vI_of eq ?_))
      cases eqV D v1 v2 with
      | true => exact vif_n (by decide) ⟨rfl, rfl⟩
      | false => exact vif_y rfl ⟨rfl, rfl⟩
  | 4, _ => exact vif_n (by decide) (vif_n (by decide) (vif_n (by decide) (vif_n (by decide) (vif_y rfl (vI_of l2 ⟨(nb _).1, rfl, rfl⟩)))))
  | 5, _ =>
    refine vif_n (by decide) (vif_n (by decide) (vif_n (by decide) (vif_n (by decide) (vif_n (by decide) (vI_of l2 ?_)))))
    have ec : cmpV D 5 v1 v2 = (lesV D v2 v1 || eqV D v1 v2) := rfl
    rw [ec]
    cases lesV D v2 v1 with
    | true => exact vif_n (by decide) ⟨rfl, rfl⟩
    | false =>
      refine vif_y rfl (vob_of H.1 (vI_of eq ?_))
      cases eqV D v1 v2 with
      | true => exact vif_n (by decide) ⟨rfl, rfl⟩
      | false => exact vif_y rfl ⟨rfl, rfl⟩
end FG
