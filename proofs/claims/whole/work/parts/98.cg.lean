theorem lk_app2 {t u : List Nat} {j : Nat} : lk (t ++ u) j = if j < t.length then lk t j else lk u (j - t.length) := by
  unfold lk
  rw [List.getD_eq_getElem?_getD, List.getD_eq_getElem?_getD, List.getD_eq_getElem?_getD]
  split
  · rename_i c
    rw [List.getElem?_append_left c]
  · rename_i c
    rw [List.getElem?_append_right (by omega)]
/-- no text has the array v -/
def nsv (h : mv_H) (v : Nat) : Prop := ∀ (a q : Nat) (x : List Value), h.2.2 a = some (.inr (0, .ref q :: x)) → q ≠ v ∧ q < h.1
theorem nsv.k {G : mv_G} {h h1 : mv_H} {v w : Nat} (n : nsv h v) (k : ksV G h h1 w) : nsv h1 v := fun a q x e => by
  obtain ⟨z1, z2⟩ := n a q x (k.2.2 a q x e)
  exact ⟨z1, Nat.lt_of_lt_of_le z2 k.2.1⟩
theorem nsv.kT {G : mv_G} {h h1 : mv_H} {v : Nat} (n : nsv h v) (hv : v < h.1) (k : ksT G h h1) : nsv h1 v := fun a q x e => by
  rcases k.2.2 a q x e with z | z
  · obtain ⟨z1, z2⟩ := n a q x z
    exact ⟨z1, Nat.lt_of_lt_of_le z2 k.2.1⟩
  · exact ⟨by omega, z.2⟩
theorem nsv.s {G : mv_G} {h h1 : mv_H} {v s : Nat} {t : List Nat} (n : nsv h v) (k : ksV G h h1 v) (hvs : ¬ ∃ fs, h.2.2 v = some (.inr (0, fs))) (hs : mv_str G h s t) : mv_str G h1 s t := by
  obtain ⟨q, x, y, f, a1, a2, a3⟩ := hs
  refine ⟨q, x, y, f, k.1 _ _ a1 (Or.inl ⟨_, rfl⟩) (fun z => hvs ⟨_, by rw [← z]; exact a1⟩), k.1 _ _ a2 (Or.inr ⟨_, rfl⟩) (n _ _ _ a1).1, a3⟩
theorem mv_sb.nv {G : mv_G} {h : mv_H} {b v cap : Nat} {t : List Nat} (hS : mv_sb G h b v cap t) : ¬ ∃ fs, h.2.2 v = some (.inr (0, fs)) := fun ⟨fs, z⟩ => by
  obtain ⟨f, mb, s1, s2, _⟩ := hS
  rw [s2] at z; cases z
theorem sbF.str {G : mv_G} {h h1 : mv_H} {b v v' k cap s : Nat} {t u : List Nat} (F : sbF G h h1 b v v' k) (n : nsv h v) (hS : mv_sb G h b v cap t) (hs : mv_str G h s u) : mv_str G h1 s u := n.s F.2.1 hS.nv hs
/-- the array of a changed builder is still nobody's -/
theorem sbF.ns {G : mv_G} {h h1 : mv_H} {b v v' k : Nat} (F : sbF G h h1 b v v' k) (n : nsv h v) : nsv h1 v' := fun a q x e => by
  obtain ⟨z1, z2⟩ := n a q x (F.2.1.2.2 a q x e)
  refine ⟨?_, Nat.lt_of_lt_of_le z2 F.2.1.2.1⟩
  rcases F.2.2 with c | c
  · rw [c]; exact z1
  · omega
section SF
variable {l : Launch} {G : mv_G} {d b v cap : Nat} {h : mv_H} {t : List Nat}
/-- a text is put behind a builder's letters -/
theorem sp_sbS {s : Nat} {u : List Nat} (hG : mv_ok G) (hX : mv_okX l G) (hS : mv_sb G h b v cap t) (hc : cap ≤ 700) (hs : mv_str G h s u) (ns : nsv h v) (hn : t.length + u.length ≤ 300) (hw : mv_wf h) (hb : G.2.2.1 ≤ h.1) (hd : 9 ≤ d) : mv_rq l G mJ4_append_15ec4 (d + 1) 0 (mv_in [.ref b, .ref s] 2) [] h (fun o h1 => o = .inl (some (.ref b)) ∧ ∃ v' cap', mv_sb G h1 b v' cap' (t ++ u) ∧ cap' ≤ 700 ∧ sbG G h h1 b v v' cap cap') := by
  obtain ⟨d, rfl⟩ : ∃ d', d = d' + 4 := ⟨d - 4, by omega⟩
  obtain ⟨f0, mb0, s1, _⟩ := id hS
  obtain ⟨_, _, _, _, hs1, _⟩ := id hs
  refine v_J4_append_15ec4 hG ?_
  unfold w_J4_append_15ec4
  refine vob_of s1 ?_
  refine v_J5_append_cf1ce hG ?_
  unfold w_J5_append_cf1ce
  refine vob_of hs1 (vI_of (sp_lenT hG hs (by omega)) (vgi_of s1 rfl (vob_of s1 ?_)))
  rw [nI_add]
  refine (sp_ens hG hX hS hc hn hw hb (by omega)).mono fun o h1 hq => ?_
  obtain ⟨ho, v', cap', hS1, k1, k2, F1⟩ := hq
  refine Or.inl ⟨ho, ?_⟩
  have hs' := F1.1.str ns hS hs
  obtain ⟨f, mb, q1, q2, q3, q4, q5, q6, q7, q8, q9⟩ := id hS1
  obtain ⟨sa, sx, sy, sf, e1, e2, e3, e4, e5⟩ := mv_str_at hs'
  have hbv := hS1.ne
  refine vgi_of q1 rfl (vob_of q1 ?_)
  refine (v_J5_putStringAt_47b60 hG ?_ : mv_rq l G mJ5_putStringAt_47b60 (d + 3) 0 (mv_in [.ref b, .int (nI t.length), .ref s] 3) [] h1 _)
  unfold w_J5_putStringAt_47b60
  refine vob_of q1 (vU_of (h' := h1) (v_J5_inflateIfNeededFor_a7421 hG ?_) (vgb_of q1 rfl (vgi_of q1 rfl (vob_of e1 ?_))))
  · unfold w_J5_inflateIfNeededFor_a7421
    exact vgi_of q1 rfl (vob_of e1 (vI_of (sp_coder hG e1 (by omega)) (vif_y rfl ⟨rfl, rfl⟩)))
  · refine (v_J0_getBytes_840e7 hG ?_ : mv_rq l G mJ0_getBytes_840e7 (d + 2) 0 (mv_in [.ref s, .ref v', .int (nI t.length), .int 0] 4) [] h1 _)
    unfold w_J0_getBytes_840e7
    refine vob_of e1 (vI_of (sp_coder hG e1 (by omega)) (vif_y rfl (vgb_of e1 rfl (vgb_of e1 rfl (vln_of e2 ?_)))))
    rw [shl0]
    refine ⟨0, t.length, u.length, u.length, cap', sf, f, rfl, rfl, rfl, e2, q2, q9, by omega, by omega, by omega, by omega, by omega, fun i hi => ?_, ?_⟩
    · rw [Nat.zero_add, e3 i hi]; exact fitB _ (e4 i)
    · have F2 : sbF G h1 (mv_set h1 v' (.inl (mv_t G 0, cap', .inl (va_cpy sf f 0 t.length u.length)))) b v' v' 0 := sbF.seta F1.1.1.1 F1.1.1.2.1 q2
      have b2 : (mv_set h1 v' (.inl (mv_t G 0, cap', .inl (va_cpy sf f 0 t.length u.length)))).2.2 b = some (.inr (1, [.ref v', .int 0, .int mb, .int (nI t.length)])) := by rw [hs_n hbv]; exact q1
      have a2 : (mv_set h1 v' (.inl (mv_t G 0, cap', .inl (va_cpy sf f 0 t.length u.length)))).2.2 v' = some (.inl (mv_t G 0, cap', .inl (va_cpy sf f 0 t.length u.length))) := hs_s
      generalize mv_set h1 v' (.inl (mv_t G 0, cap', .inl (va_cpy sf f 0 t.length u.length))) = h2 at F2 b2 a2
      refine Or.inl ⟨rfl, Or.inl ⟨rfl, vgi_of b2 rfl (vpu_of b2 q8 (show 3 < 4 by omega) rfl (Or.inl ⟨b, rfl, rfl, v', cap', ?_, k2, ?_⟩))⟩⟩
      · refine ⟨va_cpy sf f 0 t.length u.length, mb, ?_, ?_, fun j hj => ?_, fun j => ?_, fun j hj => ?_, ?_, q7, q8, q9⟩
        · rw [hs_s, List.length_append, ← nI_add]; rfl
        · rw [hs_n (fun z => hbv z.symm)]; exact a2
        · rw [lk_app2]
          rw [List.length_append] at hj
          unfold va_cpy
          by_cases c : j < t.length
          · rw [if_neg (by omega), if_pos c]; exact q3 j c
          · rw [if_pos (by omega), if_neg c, Nat.zero_add]; exact e3 _ (by omega)
        · rw [lk_app2]
          split
          · exact q4 j
          · exact e4 _
        · unfold va_cpy
          by_cases c : t.length ≤ j ∧ j < t.length + u.length
          · rw [if_pos c, Nat.zero_add, e3 _ (by omega)]; exact ⟨_, e4 _, rfl⟩
          · rw [if_neg c]; exact q5 j hj
        · rw [List.length_append]; exact k1
      · exact F1.trF hw (F2.tr (k := 0) (k2 := 0) F1.1.1.1 (sbF.setb F2.1.1 F2.1.2.1 b2) (Nat.le_refl 0))
end SF
