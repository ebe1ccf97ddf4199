theorem nC16 : ∀ c, c < 128 → ((nI c &&& 255).toUInt32 % 65536).toInt32 = nI c ∧ narrow .char (.int (nI c)) = .int (nI c) := by
  have h : ∀ c, c < 128 → ((nI c &&& 255).toUInt32 % 65536).toInt32 = nI c ∧ (nI c).toUInt32.toUInt16.toUInt32.toInt32 = nI c := by decide +kernel
  intro c hc
  refine ⟨(h c hc).1, ?_⟩
  show Value.int _ = _
  rw [(h c hc).2]
theorem hn_s {h : mv_H} {n : Nat} {e : va_E} : (mv_new h n e).2.2 h.1 = some e := by
  show (if h.1 = h.1 then _ else _) = _
  rw [if_pos rfl]
theorem hn_o {h : mv_H} {n q : Nat} {e e' : va_E} (hw : mv_wf h) (hq : h.2.2 q = some e') : (mv_new h n e).2.2 q = some e' := by
  show (if q = h.1 then _ else _) = _
  rw [if_neg (mv_wf_ne hw hq)]; exact hq
section SE
variable {l : Launch} {G : mv_G} {d b v cap : Nat} {h : mv_H} {t : List Nat}
theorem sp_sbAt {p : Nat} (hG : mv_ok G) (hS : mv_sb G h b v cap t) (hp : p < t.length) (hd : 4 ≤ d) : mv_rq l G mJ4_charAt_5068e (d + 1) 0 (mv_in [.ref b, .int (nI p)] 2) [] h (fun o h1 => o = .inl (some (.int (nI (lk t p)))) ∧ h = h1) := by
  obtain ⟨d, rfl⟩ : ∃ d', d = d' + 1 := ⟨d - 1, by omega⟩
  obtain ⟨f, mb, s1, s2, s3, s4, s5, s6, s7, s8, s9⟩ := id hS
  refine v_J4_charAt_5068e hG ?_
  unfold w_J4_charAt_5068e
  refine vob_of s1 (vI_of (x := nI (lk t p)) (h' := h) (v_J5_charAt_5068e hG ?_) ⟨(nC16 _ (s4 p)).2, rfl, rfl⟩)
  unfold w_J5_charAt_5068e
  refine vgi_of s1 rfl (vgb_of s1 rfl (vgi_of s1 rfl (vln_of s2 ?_)))
  have hm : (if nI cap >>> ((0 : Int32) &&& 31) < nI t.length then nI cap >>> ((0 : Int32) &&& 31) else nI t.length) = nI t.length := by
    rw [shr0, if_neg (nI_nlt (by omega) (by omega))]
  show mv_rq l G mJ0_checkIndex_df160 d 0 (mv_in [.int (nI p), .int (if nI cap >>> ((0 : Int32) &&& 31) < nI t.length then nI cap >>> ((0 : Int32) &&& 31) else nI t.length)] 2) [] h _
  rw [hm]
  refine vU_of (sp_chk hG (nI_pos (by omega)) (nI_lt hp (by omega)) (by omega)) (vif_y rfl (vai_of s2 rfl (show p < cap by omega) (by omega) ?_))
  rw [s3 p hp, (nC16 _ (s4 p)).1]
  exact ⟨(nC16 _ (s4 p)).2, rfl, rfl⟩
theorem sp_corA {q n e : Nat} {f : Nat → Int32} (hG : mv_ok G) (hqb : G.2.2.1 ≤ q) (fq : h.2.2 q = some (.inl (mv_t G 0, n, .inl f))) (hen : e ≤ n) (hn : n < 65536) (hfit : ∀ j, j < n → fits .byte (.int (f j)) = true) (hwf : mv_wf h) (hbs : G.2.2.1 ≤ h.1) (hd : 3 ≤ d) : mv_rq l G mJ7_copyOfRange_39247 d 0 (mv_in [.ref q, .int 0, .int (nI e)] 3) [] h (fun o h1 => o = .inl (some (.ref h.1)) ∧ ∃ g : Nat → Int32, (∀ j, j < e → g j = f j) ∧ mv_new h e (.inl (mv_t G 0, e, .inl g)) = h1) := by
  by_cases c : e = n
  · obtain ⟨d, rfl⟩ : ∃ d', d = d' + 1 := ⟨d - 1, by omega⟩
    refine v_J7_copyOfRange_39247 hG ?_
    unfold w_J7_copyOfRange_39247
    subst c
    refine vif_y rfl (vln_of fq (vif_y rfl ⟨e, f, hqb, fq, hfit, ⟨hbs, ⟨_, hn_s⟩, rfl, f, fun _ _ => rfl, rfl⟩⟩))
  · refine (sp_cor (b := 0) hG fq (Nat.zero_le _) hen (Or.inr c) hn hfit hwf hbs hd).mono fun o h1 hq => ?_
    obtain ⟨ho, hh⟩ := hq
    refine ⟨ho, _, fun j hj => ?_, hh⟩
    unfold va_cpy
    rw [if_pos ⟨Nat.zero_le _, by omega⟩]
    congr 1
    omega
/-- the text of a builder -/
theorem sp_sbStr (hG : mv_ok G) (hS : mv_sb G h b v cap t) (hc : cap ≤ 700) (hw : mv_wf h) (hb : G.2.2.1 ≤ h.1) (hd : 5 ≤ d) : mv_rq l G mJ4_toString_0e30d (d + 1) 0 (mv_in [.ref b] 1) [] h (fun o h1 => o = .inl (some (.ref h.1)) ∧ mv_str G h1 h.1 t ∧ ksT G h h1 ∧ hst G h h1 (fun _ => False) 2 (4 + t.length)) := by
  obtain ⟨d, rfl⟩ : ∃ d', d = d' + 2 := ⟨d - 2, by omega⟩
  obtain ⟨f, mb, s1, s2, s3, s4, s5, s6, s7, s8, s9⟩ := id hS
  refine v_J4_toString_0e30d hG ?_
  unfold w_J4_toString_0e30d
  refine vnw_of ?_
  have z1 : (mv_new h 4 (.inr (0, [.null, .int 0, .int 0, .int 0]))).2.2 h.1 = some (.inr (0, [.null, .int 0, .int 0, .int 0])) := hn_s
  have z2 : (mv_new h 4 (.inr (0, [.null, .int 0, .int 0, .int 0]))).2.2 b = some (.inr (1, [.ref v, .int 0, .int mb, .int (nI t.length)])) := hn_o hw s1
  have z3 : (mv_new h 4 (.inr (0, [.null, .int 0, .int 0, .int 0]))).2.2 v = some (.inl (mv_t G 0, cap, .inl f)) := hn_o hw s2
  have zw : mv_wf (mv_new h 4 (.inr (0, [.null, .int 0, .int 0, .int 0]))) := mv_wf_new hw
  have zn : ∀ a, a ≠ h.1 → (mv_new h 4 (.inr (0, [.null, .int 0, .int 0, .int 0]))).2.2 a = h.2.2 a := fun a ha => by
    show (if a = h.1 then _ else _) = _
    rw [if_neg ha]
  have zs : (mv_new h 4 (.inr (0, [.null, .int 0, .int 0, .int 0]))).1 = h.1 + 1 ∧ (mv_new h 4 (.inr (0, [.null, .int 0, .int 0, .int 0]))).2.1 = h.2.1 + 4 := ⟨rfl, rfl⟩
  have zq : hst G h (mv_new h 4 (.inr (0, [.null, .int 0, .int 0, .int 0]))) (fun _ => False) 1 4 := hst.new hw hb (by omega) (by omega)
  generalize mv_new h 4 (.inr (0, [.null, .int 0, .int 0, .int 0])) = h2 at z1 z2 z3 zw zn zs zq
  have hS2 : mv_sb G h2 b v cap t := ⟨f, mb, z2, z3, s3, s4, s5, s6, s7, s8, s9⟩
  refine (v_J0_init_81219 hG ?_ : mv_rq l G mJ0_init_81219 (d + 2) 0 (mv_in [.ref h.1, .ref b] 2) [] h2 _)
  unfold w_J0_init_81219
  refine (v_J0_init_db425 (u2 := none) hG ?_ : mv_rq l G mJ0_init_db425 (d + 1) 0 (mv_in [.ref h.1, .ref b, .null] 5) [] h2 _)
  unfold w_J0_init_db425
  obtain ⟨d, rfl⟩ : ∃ d', d = d' + 1 := ⟨d - 1, by omega⟩
  refine vob_of z2 (vB_of (x := v) (h' := h2) (v_J5_getValue_6d5f1 hG ?_) (vob_of z2 (vI_of (sp_sbLen hG hS2) (vob_of z2 (vI_of (sp_sbLat hG hS2) (vif_n (by decide) ?_))))))
  · unfold w_J5_getValue_6d5f1
    exact vgb_of z2 rfl ⟨rfl, rfl⟩
  · refine vpu_of z1 hb (show 1 < 4 by omega) rfl ?_
    rw [show [Value.null, .int 0, .int 0, .int 0].set 1 (.int 0) = [.null, .int 0, .int 0, .int 0] from rfl, mv_set_self z1]
    refine (sp_corA hG s9 z3 s6 (by omega) (fun j hj => ?_) zw zq.2.1 (by omega)).mono fun o h3 hq => ?_
    · obtain ⟨c', x1, x2⟩ := s5 j hj
      rw [x2]; exact fitB c' x1
    · obtain ⟨ho, g, hg, hh⟩ := hq
      refine Or.inl ⟨h2.1, ho, ?_⟩
      have y1 : h3.2.2 h.1 = some (.inr (0, [.null, .int 0, .int 0, .int 0])) := by rw [← hh]; exact hn_o zw z1
      have y2 : h3.2.2 h2.1 = some (.inl (mv_t G 0, t.length, .inl g)) := by rw [← hh]; exact hn_s
      have yn : ∀ a, a ≠ h.1 → a ≠ h2.1 → h3.2.2 a = h.2.2 a := fun a ha hb => by
        rw [← hh]
        show (if a = h2.1 then _ else _) = _
        rw [if_neg hb]; exact zn a ha
      have yq : hst G h h3 (fun _ => False) 2 (4 + t.length) := by
        rw [← hh]
        exact zq.tr (hst.new (c := 1) (s := t.length) zw zq.2.1 (by omega) (by omega)) (fun _ _ z => z) (fun _ _ z => z) (by omega) (by omega)
      have hne : h2.1 ≠ h.1 := by omega
      refine vpu_of y1 hb (show 0 < 4 by omega) rfl (Or.inl ⟨rfl, Or.inl ⟨rfl, rfl, ?_, ⟨fun q e hq ht => ?_, ?_, fun a q x hq => ?_⟩, ?_⟩⟩)
      · refine ⟨h2.1, 0, 0, g, hs_s, ?_, fun j hj => ?_, fun j hj => s4 j, by omega⟩
        · rw [hs_n hne]; exact y2
        · rw [hg j hj]; exact s3 j hj
      · have l1 := mv_wf_lt hw hq
        rw [hs_n (by omega), yn q (by omega) (by omega)]; exact hq
      · exact yq.2.2.1
      · by_cases c : a = h.1
        · rw [c, hs_s] at hq
          have hq2 : ([Value.null, .int 0, .int 0, .int 0].set 0 (.ref h2.1)) = .ref q :: x := (Prod.mk.inj (Sum.inr.inj (Option.some.inj hq))).2
          have hq3 : Value.ref h2.1 = .ref q := (List.cons.inj hq2).1
          have hq4 : h2.1 = q := Value.ref.inj hq3
          have h31 : h3.1 = h2.1 + 1 := by rw [← hh]; rfl
          right
          rw [← hq4]
          exact ⟨by omega, show h2.1 < h3.1 by omega⟩
        · rw [hs_n c] at hq
          by_cases c2 : a = h2.1
          · rw [c2, y2] at hq; cases hq
          · rw [yn a c c2] at hq; exact Or.inl hq
      · refine ⟨mv_wf_set yq.1 y1, yq.2.1, yq.2.2.1, yq.2.2.2.1, yq.2.2.2.2.1, yq.2.2.2.2.2.1, fun a ha hn => ?_⟩
        rw [hs_n (by omega)]
        exact yq.2.2.2.2.2.2 a ha hn
end SE
