section SC
variable {l : Launch} {G : mv_G} {d b v cap : Nat} {h : mv_H} {t : List Nat}
/-- room for n letters -/
theorem sp_ens {n : Nat} (hG : mv_ok G) (hX : mv_okX l G) (hS : mv_sb G h b v cap t) (hc : cap ≤ 700) (hn : n ≤ 300) (hw : mv_wf h) (hb : G.2.2.1 ≤ h.1) (hd : 7 ≤ d) : mv_rq l G mJ5_ensureCapacityInternal_d00df (d + 1) 0 (mv_in [.ref b, .int (nI n)] 3) [] h (fun o h1 => o = .inl none ∧ ∃ v' cap', mv_sb G h1 b v' cap' t ∧ n ≤ cap' ∧ cap' ≤ 700 ∧ sbG G h h1 b v v' cap cap') := by
  have hS0 := hS
  obtain ⟨f, mb, s1, s2, s3, s4, s5, s6, s7, s8, s9⟩ := hS
  refine v_J5_ensureCapacityInternal_d00df hG ?_
  unfold w_J5_ensureCapacityInternal_d00df
  refine vgb_of s1 rfl (vln_of s2 (vgi_of s1 rfl ?_))
  rw [shr0]
  have rfF : sbG G h h b v v cap cap := ⟨⟨hst.rf hw hb, ksV.rf, Or.inl rfl⟩, Nat.le_refl _⟩
  have hle : ((nI n - nI cap) ≤ (0 : Int32)) = (n ≤ cap) := by
    refine propext ⟨fun z => Classical.byContradiction fun w => ?_, fun z => ?_⟩
    · have e1 : nI n - nI cap = nI (n - cap) := by
        rw [show n = (n - cap) + cap by omega, ← nI_add, Int32.add_sub_cancel]
        congr 1; omega
      rw [e1] at z
      exact nI_nle (by omega) (by omega) z
    · have e1 : nI n - nI cap = -(nI (cap - n)) := by
        rw [show cap = (cap - n) + n by omega, ← nI_add]
        rw [show (cap - n) + n - n = cap - n by omega]
        rw [Int32.sub_eq_add_neg, Int32.neg_add, Int32.sub_eq_add_neg, Int32.add_comm (-(nI (cap - n))), ← Int32.add_assoc, Int32.add_right_neg, Int32.zero_add]
      rw [e1, Int32.le_iff_toInt_le, sb_negT (by omega)]
      have : (0 : Int32).toInt = 0 := rfl
      omega
  refine vif_of (fun c => ⟨rfl, v, cap, hS0, by rw [← hle]; exact c, hc, rfF⟩) (fun c => ?_)
  have hlt : cap < n := by
    have : ¬ n ≤ cap := fun z => c (by show nI n - nI cap ≤ 0; rw [hle]; exact z)
    omega
  obtain ⟨d, rfl⟩ : ∃ d', d = d' + 1 := ⟨d - 1, by omega⟩
  refine vgb_of s1 rfl (vob_of s1 (vI_of (sp_newLen hG hX hS0 hlt hn (by omega)) (vgi_of s1 rfl ?_)))
  rw [shl0]
  obtain ⟨cap', hcap'⟩ : ∃ cap', cap' = cap + max (n - cap) (cap + 2) := ⟨_, rfl⟩
  rw [← hcap']
  -- the copy
  refine (v_J7_copyOf_9075b hG ?_ : mv_rq l G mJ7_copyOf_9075b (d + 1) 0 (mv_in [.ref v, .int (nI cap')] 3) [] h _)
  unfold w_J7_copyOf_9075b
  refine vln_of s2 (vif_n ?_ ⟨nI_pos (by omega), by rw [nI_clamp (by omega)]; omega, vnw_of ?_⟩)
  · intro z
    have := (nI_eq (by omega) (by show cap < _; omega)).mp z
    have : cap' = cap := this
    omega
  · rw [nI_clamp (show cap' < 2 ^ 31 by omega)]
    have hv1 : v ≠ h.1 := by have := mv_wf_lt hw s2; omega
    have hb1 : b ≠ h.1 := by have := mv_wf_lt hw s1; omega
    have hbv : b ≠ v := fun z => by rw [z, s2] at s1; cases s1
    have n2 : (mv_new h cap' (.inl (mv_t G 0, cap', .inl (fun _ => 0)))).2.2 v = some (.inl (mv_t G 0, cap, .inl f)) := by
      show (if v = h.1 then _ else _) = _
      rw [if_neg hv1]; exact s2
    have n1 : (mv_new h cap' (.inl (mv_t G 0, cap', .inl (fun _ => 0)))).2.2 h.1 = some (.inl (mv_t G 0, cap', .inl (fun _ => 0))) := by
      show (if h.1 = h.1 then _ else _) = _
      rw [if_pos rfl]
    have nb : (mv_new h cap' (.inl (mv_t G 0, cap', .inl (fun _ => 0)))).2.2 b = some (.inr (1, [.ref v, .int 0, .int mb, .int (nI t.length)])) := by
      show (if b = h.1 then _ else _) = _
      rw [if_neg hb1]; exact s1
    have hmin : (if nI cap' < nI cap then nI cap' else nI cap) = nI cap := by rw [if_neg (nI_nlt (by omega) (by omega))]
    refine vln_of n2 ⟨0, 0, cap, cap, cap', f, fun _ => 0, rfl, rfl, hmin, n2, n1, hb, by omega, by omega, by omega, by omega, by omega, fun i hi => ?_, ?_⟩
    · rw [Nat.zero_add]
      obtain ⟨c', x1, x2⟩ := s5 i hi
      rw [x2]
      exact fitB c' x1
    · obtain ⟨h1, eh1⟩ : ∃ h1, h1 = mv_set (mv_new h cap' (.inl (mv_t G 0, cap', .inl (fun _ => 0)))) h.1 (.inl (mv_t G 0, cap', .inl (va_cpy f (fun _ => 0) 0 0 cap))) := ⟨_, rfl⟩
      rw [← eh1]
      have eh1' : h1 = mv_new h cap' (.inl (mv_t G 0, cap', .inl (va_cpy f (fun _ => 0) 0 0 cap))) := by rw [eh1, mv_set_new]
      have m1 : h1.2.2 b = some (.inr (1, [.ref v, .int 0, .int mb, .int (nI t.length)])) := by
        rw [eh1']
        show (if b = h.1 then _ else _) = _
        rw [if_neg hb1]; exact s1
      have m2 : h1.2.2 h.1 = some (.inl (mv_t G 0, cap', .inl (va_cpy f (fun _ => 0) 0 0 cap))) := by
        rw [eh1']
        show (if h.1 = h.1 then _ else _) = _
        rw [if_pos rfl]
      have w1 : mv_wf h1 := by rw [eh1']; exact mv_wf_new hw
      have q1 : hst G h h1 (fun a => a = b ∨ a = v) (cap' - cap) (2 * (cap' - cap)) := by rw [eh1']; exact hst.new hw hb (by omega) (by omega)
      have k1 : ksV G h h1 v := by
        rw [eh1']
        refine ⟨fun q e hq _ _ => ?_, Nat.le_succ _, fun a q x hq => ?_⟩
        · show (if q = h.1 then _ else _) = _
          rw [if_neg (by have := mv_wf_lt hw hq; omega)]; exact hq
        · have hq' : (if a = h.1 then _ else h.2.2 a) = some (.inr (0, .ref q :: x)) := hq
          by_cases c : a = h.1
          · rw [if_pos c] at hq'; cases hq'
          · rw [if_neg c] at hq'; exact hq'
      refine Or.inl ⟨h.1, rfl, vpu_of m1 s8 (show 0 < 4 by omega) rfl ⟨rfl, h.1, cap', ?_, by omega, by omega, ?_⟩⟩
      · refine ⟨va_cpy f (fun _ => 0) 0 0 cap, mb, hs_s, ?_, fun j hj => ?_, s4, fun j hj => ?_, by omega, by omega, s8, hb⟩
        · rw [hs_n (fun z => hb1 z.symm)]; exact m2
        · unfold va_cpy
          rw [if_pos ⟨Nat.zero_le _, by omega⟩, Nat.zero_add, Nat.sub_zero]
          exact s3 j hj
        · unfold va_cpy
          by_cases c : 0 ≤ j ∧ j < 0 + cap
          · rw [if_pos c, Nat.zero_add, Nat.sub_zero]
            exact s5 j (by omega)
          · rw [if_neg c]
            exact ⟨0, by omega, rfl⟩
      · have q2 : hst G h1 (mv_set h1 b (.inr (1, [.ref h.1, .int 0, .int mb, .int (nI t.length)]))) (fun a => a = b ∨ a = v) 0 0 := hst.set w1 q1.2.1 m1 (Or.inl rfl)
        exact ⟨⟨q1.tr q2 (fun _ _ z => z) (fun _ _ z => z) (by omega) (by omega), k1.tr (ksV.set m1 (nTx_o (by decide))), Or.inr (Nat.le_refl _)⟩, by omega⟩
end SC
