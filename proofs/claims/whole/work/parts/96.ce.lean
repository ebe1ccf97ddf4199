theorem sbF.mn {G : mv_G} {h h1 : mv_H} {b v v' k k' : Nat} (a : sbF G h h1 b v v' k) (hk : k ≤ k') : sbF G h h1 b v v' k' := ⟨a.1.mn (fun _ _ z => z) hk (by omega), a.2⟩
theorem sbF.rf {G : mv_G} {h : mv_H} {b v k : Nat} (hw : mv_wf h) (hb : G.2.2.1 ≤ h.1) : sbF G h h b v v k := ⟨hst.rf hw hb, ksV.rf, Or.inl rfl⟩
theorem sbF.setb {G : mv_G} {h : mv_H} {b v k : Nat} {fs fs' : List Value} (hw : mv_wf h) (hb : G.2.2.1 ≤ h.1) (h0 : h.2.2 b = some (.inr (1, fs))) : sbF G h (mv_set h b (.inr (1, fs'))) b v v k := ⟨hst.set hw hb h0 (Or.inl rfl), ksV.set h0 (nTx_o (by decide)), Or.inl rfl⟩
theorem sbF.seta {G : mv_G} {h : mv_H} {b v k : Nat} {e e' : ClassId × vp_A} (hw : mv_wf h) (hb : G.2.2.1 ≤ h.1) (h0 : h.2.2 v = some (.inl e)) : sbF G h (mv_set h v (.inl e')) b v v k := by
  refine ⟨hst.set hw hb h0 (Or.inr rfl), ⟨fun q e hq ht hv => ?_, Nat.le_refl _, fun a q x hq => ?_⟩, Or.inl rfl⟩
  · rw [hs_n hv]; exact hq
  · by_cases c : a = v
    · rw [c, hs_s] at hq; cases hq
    · rw [hs_n c] at hq; exact hq
theorem mv_sb.ne {G : mv_G} {h : mv_H} {b v cap : Nat} {t : List Nat} (hS : mv_sb G h b v cap t) : b ≠ v := fun z => by
  obtain ⟨f, mb, s1, s2, _⟩ := hS
  rw [z, s2] at s1; cases s1
theorem nB8 : ∀ c, c < 128 → (nI c).toInt8.toInt32 = nI c := by decide +kernel
section SD
variable {l : Launch} {G : mv_G} {d b v cap : Nat} {h : mv_H} {t : List Nat}
/-- a letter is put behind a builder's letters -/
theorem sp_sbC {c : Nat} (hG : mv_ok G) (hX : mv_okX l G) (hS : mv_sb G h b v cap t) (hc : cap ≤ 700) (hn : t.length < 300) (hc8 : c < 128) (hw : mv_wf h) (hb : G.2.2.1 ≤ h.1) (hd : 9 ≤ d) : mv_rq l G mJ4_append_cf468 (d + 1) 0 (mv_in [.ref b, .int (nI c)] 2) [] h (fun o h1 => o = .inl (some (.ref b)) ∧ ∃ v' cap', mv_sb G h1 b v' cap' (t ++ [c]) ∧ cap' ≤ 700 ∧ sbG G h h1 b v v' cap cap') := by
  obtain ⟨d, rfl⟩ : ∃ d', d = d' + 2 := ⟨d - 2, by omega⟩
  obtain ⟨f0, mb0, s1, _⟩ := id hS
  refine v_J4_append_cf468 hG ?_
  unfold w_J4_append_cf468
  refine vob_of s1 ?_
  refine v_J5_append_3fe6f hG ?_
  unfold w_J5_append_3fe6f
  refine vgi_of s1 rfl (vob_of s1 ?_)
  rw [show nI t.length + 1 = nI (t.length + 1) by rw [nI_succ]]
  refine (sp_ens hG hX hS hc (show t.length + 1 ≤ 300 by omega) hw hb (by omega)).mono fun o h1 hq => ?_
  obtain ⟨ho, v', cap', hS1, k1, k2, F1⟩ := hq
  refine Or.inl ⟨ho, ?_⟩
  obtain ⟨f, mb, q1, q2, q3, q4, q5, q6, q7, q8, q9⟩ := id hS1
  refine vob_of q1 (vI_of (sp_sbLat hG hS1) (vif_n (by decide) (vI_of (x := 1) (h' := h1) (v_J1_canEncode_fc78d hG ?_) (vif_n (by decide) ?_))))
  · unfold w_J1_canEncode_fc78d
    refine vif_n ?_ ⟨rfl, rfl⟩
    rw [show (255 : Int32) = nI 255 from rfl]
    exact nI_nlt (by omega) (by omega)
  · have hbv := hS1.ne
    refine vgb_of q1 rfl (vgi_of q1 rfl (vpu_of q1 q8 (show 3 < 4 by omega) rfl ?_))
    have q2' : (mv_set h1 b (.inr (1, [.ref v', .int 0, .int mb, .int (nI t.length + 1)]))).2.2 v' = some (.inl (mv_t G 0, cap', .inl f)) := by rw [hs_n (fun z => hbv z.symm)]; exact q2
    have F2 : sbF G h1 (mv_set h1 b (.inr (1, [.ref v', .int 0, .int mb, .int (nI t.length + 1)]))) b v' v' 0 := sbF.setb F1.1.1.1 F1.1.1.2.1 q1
    have b2 : (mv_set h1 b (.inr (1, [.ref v', .int 0, .int mb, .int (nI t.length + 1)]))).2.2 b = some (.inr (1, [.ref v', .int 0, .int mb, .int (nI t.length + 1)])) := hs_s
    show vsi G (mv_set h1 b (.inr (1, [.ref v', .int 0, .int mb, .int (nI t.length + 1)]))) v' 0 (nI t.length) _ _
    generalize mv_set h1 b (.inr (1, [.ref v', .int 0, .int mb, .int (nI t.length + 1)])) = h2 at q2' F2 b2
    refine vsi_of q2' q9 rfl (show t.length < cap' by omega) (by omega) (Or.inl ⟨b, rfl, rfl, v', cap', ?_, k2, ?_⟩)
    · refine ⟨upd f t.length (nI c), mb, ?_, ?_, fun j hj => ?_, fun j => ?_, fun j hj => ?_, ?_, q7, q8, q9⟩
      · rw [hs_n hbv, b2, List.length_append, show nI (t.length + [c].length) = nI t.length + 1 from nI_succ _]
      · rw [nB8 c hc8, vnB c hc8]; exact hs_s
      · rw [lk_app]
        unfold upd
        rw [List.length_append] at hj
        have : [c].length = 1 := rfl
        by_cases e : j = t.length
        · rw [if_pos e, if_neg (by omega), if_pos e]
        · rw [if_neg e, if_pos (by omega)]; exact q3 j (by omega)
      · rw [lk_app]
        split
        · exact q4 j
        · split
          · exact hc8
          · omega
      · unfold upd
        split
        · exact ⟨c, hc8, rfl⟩
        · exact q5 j hj
      · rw [List.length_append]
        exact k1
    · exact F1.trF hw (F2.tr (k := 0) (k2 := 0) F1.1.1.1 (sbF.seta F2.1.1 F2.1.2.1 q2') (Nat.le_refl 0))
/-- a builder is emptied -/
theorem sp_sb0 (hG : mv_ok G) (hX : mv_okX l G) (hS : mv_sb G h b v cap t) (hc : cap ≤ 700) (hw : mv_wf h) (hb : G.2.2.1 ≤ h.1) (hd : 9 ≤ d) : mv_rq l G mJ4_setLength_d00df (d + 1) 0 (mv_in [.ref b, .int 0] 2) [] h (fun o h1 => o = .inl none ∧ ∃ v' cap', mv_sb G h1 b v' cap' [] ∧ cap' ≤ 700 ∧ sbG G h h1 b v v' cap cap') := by
  obtain ⟨d, rfl⟩ : ∃ d', d = d' + 2 := ⟨d - 2, by omega⟩
  obtain ⟨f0, mb0, s1, s2, s3, s4, s5, s6, s7, s8, s9⟩ := id hS
  refine v_J4_setLength_d00df hG ?_
  unfold w_J4_setLength_d00df
  refine vob_of s1 ?_
  refine v_J5_setLength_d00df hG hX (by omega) ?_
  unfold w_J5_setLength_d00df
  refine vif_y (by decide) (vob_of s1 ?_)
  refine (sp_ens (n := 0) hG hX hS hc (by omega) hw hb (by omega)).mono fun o h1 hq => ?_
  obtain ⟨ho, v', cap', hS1, k1, k2, F1⟩ := hq
  refine Or.inl ⟨ho, ?_⟩
  obtain ⟨f, mb, q1, q2, q3, q4, q5, q6, q7, q8, q9⟩ := id hS1
  have hbv := hS1.ne
  obtain ⟨QQ, hQQ⟩ : ∃ QQ : mv_O → mv_H → Prop, QQ = fun o h1 => o = .inl none ∧ ∃ v' cap', mv_sb G h1 b v' cap' [] ∧ cap' ≤ 700 ∧ sbG G h h1 b v v' cap cap' := ⟨_, rfl⟩
  rw [← hQQ]
  have fin : ∀ (h2 : mv_H) (mb2 : Int32), h2.2.2 b = some (.inr (1, [.ref v', .int 0, .int mb2, .int (nI t.length)])) → h2.2.2 v' = some (.inl (mv_t G 0, cap', .inl f)) → sbG G h h2 b v v' cap cap' → mv_rq l G mJ5_setLength_d00df (d + 2) 76 [some (.ref b), some (.int 0)] [] h2 (vU (fun E h3 => QQ (.inr E) h3) (fun h3 => QQ (.inl none) h3)) := by
    intro h2 mb2 e1 e2 e3
    refine v_J5_setLength_d00df_76 hG hX (by omega) ?_
    unfold w_J5_setLength_d00df_76
    refine vpu_of e1 q8 (show 3 < 4 by omega) rfl (Or.inl ⟨rfl, ?_⟩)
    rw [hQQ]
    refine ⟨rfl, v', cap', ⟨f, mb2, hs_s, ?_, fun j hj => ?_, fun j => ?_, q5, Nat.zero_le _, q7, q8, q9⟩, k2, e3.trF hw (sbF.setb e3.1.1.1 e3.1.1.2.1 e1)⟩
    · rw [hs_n (fun z => hbv z.symm)]; exact e2
    · cases hj
    · show lk [] j < 128
      simp [lk]
  refine vgi_of q1 rfl (vif_y (nI_pos' (by omega)) (vgi_of q1 rfl (vif_of (fun _ => fin h1 mb q1 q2 F1) (fun _ => ?_))))
  refine vpu_of q1 q8 (show 2 < 4 by omega) rfl (fin _ 1 hs_s ?_ (F1.trF hw (sbF.setb F1.1.1.1 F1.1.1.2.1 q1)))
  rw [hs_n (fun z => hbv z.symm)]; exact q2
end SD
