section RM
variable {l : Launch} {G : mv_G} {d A r c s p n : Nat} {h : mv_H} {t : List Nat} {D : dS}
def PM (G : mv_G) (h : mv_H) (r c A s : Nat) (t : List Nat) (D : dS) (x : (List Nat × Nat) ⊕ Nat) (o : mv_O) (h1 : mv_H) : Prop := match x with
  | .inl (nm, p') => ∃ b, o = .inl (some (.ref b)) ∧ RS G h1 r c A s t p' D ∧ mv_str G h1 b nm ∧ rst G h h1 A c 2
  | .inr w => ∃ E, o = .inr (xIA, E) ∧ IL G h h1 r c A s w 3
theorem sp_readMemberName (hG : mv_ok G) (hX : mv_okX l G) (H : RS G h r c A s t p D) (ht : tOk t) (hn : n < D.1) (hk : ∀ k, k ∈ nki (D.2 n) → k < D.1) (hl : (nki (D.2 n)).length ≤ 40) (h6 : nkd (D.2 n) = 6) (hsz : nsz (D.2 n) = nI (nki (D.2 n)).length) : mv_rq l G mX2_readMemberName (d + 10) 0 (mv_in [.ref r, .int (nI n)] 4) [] h (PM G h r c A s t D (rdMem t D n p)) := by
  have h160 := ht.1
  have hcb := H.2.2.2.2.2.1.2.2.2
  refine v_X2_readMemberName hG ?_
  unfold w_X2_readMemberName
  refine vgb_of H.1 rfl (vob_of H.2.1 ?_)
  refine vU_of (sp_skipBlanks hG H.2.1 H.2.2.2.1 H.2.2.2.2.2.2.1 hcb (by omega)) ?_
  obtain ⟨H1, R1⟩ := H.cur (p' := skB t 160 p) (bl_le H.2.2.2.2.2.2.1)
  generalize mv_set h c (curE s (skB t 160 p) (-1)) = h1 at H1 R1
  change RS G h1 r c A s t (bl t p) D at H1
  refine vgb_of H1.1 rfl (vgi_of H1.2.1 rfl (vgb_of H1.1 rfl (vob_of H1.2.1 ?_)))
  unfold rdMem
  refine (sp_readString hG hX (qt := 34) (br := 92) H1.2.1 H1.2.2.2.1 H1.2.2.2.2.1.1 h160 (by decide) (by decide) (by decide) H1.2.2.2.2.2.2.1 hcb (by omega)).mono fun o h2 hq => ?_
  rcases hq with ⟨q, e1, e2, e3, a, e4, e5, e6⟩ | ⟨w, p'', e1, e2, e3⟩
  · rw [e1]
    simp only
    refine Or.inl ⟨a, e4, ?_⟩
    obtain ⟨H2a, R2a⟩ := H1.cur (p' := q + 1) (by omega)
    obtain ⟨H2, R2b⟩ := H2a.made e6
    have R2 : rst G h h2 A c 2 := (R1.tr R2a (k := 0) (by omega)).tr R2b (by omega)
    have e5' : mv_str G h2 a (sl t (bl t p + 1) (q - (bl t p + 1))) := e5
    obtain ⟨V, I, d1, d2⟩ := H2.2.2.1
    refine vgb_of H2.1 rfl (vob_of d1.1 (vI_of (sp_childNamed (d := d + 7) hG d1 d2 H2.2.2.2.2.2.2.2 hn hk hl (fun _ => hsz) e5') ?_))
    rw [if_pos h6]
    cases hkn : kidN D n (sl t (bl t p + 1) (q - (bl t p + 1))) with
    | some k =>
      have hk1 : k < D.1 := hk k (by unfold kidN at hkn; exact List.mem_of_find?_eq_some hkn)
      have := H2.2.2.2.2.2.2.2
      rw [if_pos (by simp)]
      refine vif_n (nI_m1 (by omega)) (vgb_of H2.1 rfl (vob_of H2.2.1 ?_))
      refine (sp_refuse hG hX H2.2.1 hcb (by omega)).mono fun o h3 hq => Or.inr ⟨_, hq.1, _, rfl, ?_⟩
      rw [← hq.2]
      exact IL.pre R2 H2.ill (by omega)
    | none =>
      rw [if_neg (by simp)]
      refine vif_y rfl (v_X2_readMemberName_48 hG ?_)
      unfold w_X2_readMemberName_48
      refine vgb_of H2.1 rfl (vob_of H2.2.1 ?_)
      refine vU_of (sp_skipBlanks hG H2.2.1 H2.2.2.2.1 H2.2.2.2.2.2.2.1 hcb (by omega)) ?_
      obtain ⟨H3, R3⟩ := H2.cur (p' := skB t 160 (q + 1)) (bl_le H2.2.2.2.2.2.2.1)
      generalize mv_set h2 c (curE s (skB t 160 (q + 1)) (-1)) = h3 at H3 R3
      change RS G h3 r c A s t (bl t (q + 1)) D at H3
      refine vgb_of H3.1 rfl (vob_of H3.2.1 ?_)
      refine (sp_expect hG hX (ch := 58) H3.2.1 H3.2.2.2.1 H3.2.2.2.2.2.2.1 (by decide) (by decide) hcb (by omega)).mono fun o h4 hq => ?_
      rcases hq with ⟨x1, x2, x3⟩ | ⟨x1, x2, x3⟩
      · rw [if_pos x1]
        obtain ⟨H4, R4⟩ := H3.cur (p' := bl t (q + 1) + 1) (lk_lt x1 (by decide))
        rw [x3] at H4 R4
        exact Or.inl ⟨x2, a, rfl, H4, (R3.2.tr R4.2).s e5', (R2.tr R3 (k := 2) (by omega)).tr R4 (by omega)⟩
      · rw [if_neg x1]
        refine Or.inr ⟨_, x2, _, rfl, ?_⟩
        rw [← x3]
        exact IL.pre (R2.tr R3 (k := 2) (by omega)) H3.ill (by omega)
  · rw [e1]
    refine Or.inr ⟨_, e2, _, rfl, ?_⟩
    rw [← e3]
    exact IL.pre R1 H1.ill (by omega)
/-- a box is opened -/
theorem sp_openHolder {kd : Int32} {lv : Nat} (hG : mv_ok G) (hX : mv_okX l G) (H : RS G h r c A s t p D) (ht : tOk t) (hn : n < D.1) (hp : p < t.length) (hlv : lv ≤ 7) : mv_rq l G mX2_openHolder (d + 8) 0 (mv_in [.ref r, .int (nI n), .int kd, .int (nI lv)] 4) [] h (fun o h1 => (lv ≤ 6 ∧ o = .inl none ∧ RS G h1 r c A s t (bl t (p + 1)) (setK D n kd) ∧ rst G h h1 A c 0) ∨ (6 < lv ∧ ∃ E, o = .inr (xIA, E) ∧ IL G h h1 r c A s p 1)) := by
  have hcb := H.2.2.2.2.2.1.2.2.2
  have h40 := H.2.2.2.2.2.2.2
  refine v_X2_openHolder hG ?_
  unfold w_X2_openHolder
  refine vif_of (fun cc => ?_) (fun cc => ?_)
  · have hl6 : lv ≤ 6 := by
      rw [Int32.le_iff_toInt_le, nI_toInt (by omega)] at cc
      have : (6 : Int32).toInt = 6 := rfl
      omega
    refine v_X2_openHolder_20 hG ?_
    unfold w_X2_openHolder_20
    obtain ⟨V, I, d1, d2⟩ := H.2.2.1
    obtain ⟨hw, hb⟩ := H.wf
    have hcell := d1.2.2.2.2.1 n (by omega)
    refine vgb_of H.1 rfl (vNd d1 (by omega) rfl (vpu_of hcell.1 (by have := d1.2.2.2.2.2; omega) (show 0 < 10 by omega) rfl ?_))
    obtain ⟨w, ew⟩ : ∃ w : vF, w = (kd, (V n).2) := ⟨_, rfl⟩
    have hdst : dst G h (mv_set h (A + 43 + n) (vE w)) A := dst.set hw hb hcell.1 ⟨by omega, by omega⟩ (nTx_o (by decide))
    have hd' : hdc G (mv_set h (A + 43 + n) (vE w)) A s (nI D.1) (updL V n w) I := d1.val (by omega) (by rw [ew]; exact hcell.2)
    have hD' : dcD G (mv_set h (A + 43 + n) (vE w)) (setK D n kd) (updL V n w) I := fun i hi => by
      show dcV G _ (if i = n then _ else D.2 i) _ _
      by_cases e : i = n
      · subst e
        obtain ⟨q1, q2⟩ := (d2 i hi).k hdst.2
        rw [if_pos rfl, updL_s]
        rw [ew] at q2 ⊢
        exact ⟨rfl, q2⟩
      · rw [if_neg e, updL_n e]
        exact (d2 i hi).k hdst.2
    obtain ⟨H1, R1⟩ := H.doc (D' := setK D n kd) hdst ⟨_, _, hd', hD'⟩ h40
    have eh : mv_set h (A + 43 + n) (.inr (13, ([Value.int (V n).1, .int (V n).2.1, .ref (V n).2.2.1, .int (V n).2.2.2.1, .ref (V n).2.2.2.2.1, .int (V n).2.2.2.2.2.1, .int (V n).2.2.2.2.2.2.1, .int (V n).2.2.2.2.2.2.2.1, .int (V n).2.2.2.2.2.2.2.2.1, .int (V n).2.2.2.2.2.2.2.2.2] : List Value).set 0 (.int kd))) = mv_set h (A + 43 + n) (vE w) := by rw [ew]; rfl
    rw [eh]
    generalize mv_set h (A + 43 + n) (vE w) = h1 at H1 R1
    refine vgb_of H1.1 rfl (vob_of H1.2.1 (vU_of (sp_skip hG H1.2.1 H1.2.2.2.1 hp hcb (by omega)) ?_))
    obtain ⟨H2, R2⟩ := H1.cur (p' := p + 1) (by omega)
    generalize mv_set h1 c (curE s (p + 1) (-1)) = h2 at H2 R2
    refine vgb_of H2.1 rfl (vob_of H2.2.1 (vU_of (sp_skipBlanks hG H2.2.1 H2.2.2.2.1 H2.2.2.2.2.2.2.1 hcb (by omega)) ?_))
    obtain ⟨H3, R3⟩ := H2.cur (p' := skB t 160 (p + 1)) (bl_le (by omega))
    exact Or.inl ⟨hl6, rfl, H3, (R1.tr R2 (k := 0) (by omega)).tr R3 (by omega)⟩
  · have hl6 : 6 < lv := by
      rw [Int32.le_iff_toInt_le, nI_toInt (by omega)] at cc
      have : (6 : Int32).toInt = 6 := rfl
      omega
    refine vgb_of H.1 rfl (vgb_of H.1 rfl (vgi_of H.2.1 rfl (vob_of H.2.1 ?_)))
    refine (sp_refuse hG hX H.2.1 hcb (by omega)).mono fun o h3 hq => Or.inr ⟨_, hq.1, Or.inr ⟨hl6, _, rfl, ?_⟩⟩
    rw [← hq.2]
    exact H.ill
end RM
