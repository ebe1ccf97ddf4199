section RX
variable {l : Launch} {G : mv_G} {A r c s : Nat} {t : List Nat}
/-- a box whose bracket was seen -/
theorem sp_boxA {d lv n p : Nat} {h : mv_H} {D : dS} {g : Nat → Nat} (hG : mv_ok G) (hX : mv_okX l G) (ht : tOk t) (hlv : lv ≤ 5) (hV : VC l G r c A s t lv) (hd : 2 * lv + 13 ≤ d) (H : RS G h r c A s t p D) (hp : p < t.length) (hn : n < D.1) (hI : dI t g (setK D n 5)) (hfi : nfi (D.2 n) = none) (hg : g n + 1 + lv = 6) : mv_rq l G mX2_readArray (d + 1) 0 (mv_in [.ref r, .int (nI n), .int (nI (6 - lv))] 4) [] h (PX G h r c A s t D 0 5 (pB t (fun D p nm => pV t lv D p (some n) nm) false n D p)) := by
  have hcb := H.2.2.2.2.2.1.2.2.2
  refine v_X2_readArray hG ?_
  unfold w_X2_readArray
  obtain ⟨d', rfl⟩ : ∃ d', d = d' + 8 := ⟨d - 8, by omega⟩
  refine vob_of H.1 ((sp_openHolder (kd := 5) (lv := 6 - lv) hG hX H ht hn hp (by omega)).mono fun o h1 hq => ?_)
  rcases hq with ⟨_, Q1, Q2, Q3⟩ | ⟨z, _⟩
  · refine Or.inl ⟨Q1, vgb_of Q2.1 rfl (vob_of Q2.2.1 ?_)⟩
    refine (sp_passes hG (ch := 93) Q2.2.1 Q2.2.2.2.1 Q2.2.2.2.2.2.2.1 (by decide) (by decide) hcb (by omega)).mono fun o h2 hq2 => ?_
    unfold pB
    rcases hq2 with ⟨x1, x2, x3⟩ | ⟨x1, x2, x3⟩
    · obtain ⟨H4, R4⟩ := Q2.cur (p' := bl t (p + 1) + 1) (lk_lt x1 (by decide))
      rw [x3] at H4 R4
      rw [if_pos (show lk t (bl t (p + 1)) = (if false = true then 125 else 93) from x1)]
      exact Or.inl ⟨_, x2, vif_n (by decide) ⟨rfl, H4, (Q3.tr R4 (Nat.le_refl _)).mn (by omega)⟩⟩
    · rw [if_neg (show ¬ lk t (bl t (p + 1)) = (if false = true then 125 else 93) from x1)]
      rw [← x3]
      refine Or.inl ⟨_, x2, vif_y rfl ?_⟩
      have hk1 : nkd ((setK D n 5).2 n) = 5 := by unfold setK; rw [dU_s]
      have hf1 : nfi ((setK D n 5).2 n) = none := by unfold setK; rw [dU_s]; exact hfi
      refine (sp_lpA hG hX ht hlv hV (d := d' + 8) (n := n) hd 39 g (setK D n 5) (bl t (p + 1)) h1 (by omega) Q2 hI hn hk1 hf1 hg).mono fun o h3 hq3 => PX.pre Q3 hq3 (fun D2 p2 z => ?_) (by show 0 + (4 * (40 - D.1) + 5) ≤ _; omega)
      show 0 + (4 * (D2.1 - D.1) - 0) ≤ _
      omega
  · omega
theorem sp_boxO {d lv n p : Nat} {h : mv_H} {D : dS} {g : Nat → Nat} (hG : mv_ok G) (hX : mv_okX l G) (ht : tOk t) (hlv : lv ≤ 5) (hV : VC l G r c A s t lv) (hd : 2 * lv + 13 ≤ d) (H : RS G h r c A s t p D) (hp : p < t.length) (hn : n < D.1) (hI : dI t g (setK D n 6)) (hfi : nfi (D.2 n) = none) (hg : g n + 1 + lv = 6) : mv_rq l G mX2_readObject (d + 1) 0 (mv_in [.ref r, .int (nI n), .int (nI (6 - lv))] 4) [] h (PX G h r c A s t D 0 5 (pB t (fun D p nm => pV t lv D p (some n) nm) true n D p)) := by
  have hcb := H.2.2.2.2.2.1.2.2.2
  refine v_X2_readObject hG ?_
  unfold w_X2_readObject
  obtain ⟨d', rfl⟩ : ∃ d', d = d' + 8 := ⟨d - 8, by omega⟩
  refine vob_of H.1 ((sp_openHolder (kd := 6) (lv := 6 - lv) hG hX H ht hn hp (by omega)).mono fun o h1 hq => ?_)
  rcases hq with ⟨_, Q1, Q2, Q3⟩ | ⟨z, _⟩
  · refine Or.inl ⟨Q1, vgb_of Q2.1 rfl (vob_of Q2.2.1 ?_)⟩
    refine (sp_passes hG (ch := 125) Q2.2.1 Q2.2.2.2.1 Q2.2.2.2.2.2.2.1 (by decide) (by decide) hcb (by omega)).mono fun o h2 hq2 => ?_
    unfold pB
    rcases hq2 with ⟨x1, x2, x3⟩ | ⟨x1, x2, x3⟩
    · obtain ⟨H4, R4⟩ := Q2.cur (p' := bl t (p + 1) + 1) (lk_lt x1 (by decide))
      rw [x3] at H4 R4
      rw [if_pos (show lk t (bl t (p + 1)) = (if true = true then 125 else 93) from x1)]
      exact Or.inl ⟨_, x2, vif_n (by decide) ⟨rfl, H4, (Q3.tr R4 (Nat.le_refl _)).mn (by omega)⟩⟩
    · rw [if_neg (show ¬ lk t (bl t (p + 1)) = (if true = true then 125 else 93) from x1)]
      rw [← x3]
      refine Or.inl ⟨_, x2, vif_y rfl ?_⟩
      have hk1 : nkd ((setK D n 6).2 n) = 6 := by unfold setK; rw [dU_s]
      have hf1 : nfi ((setK D n 6).2 n) = none := by unfold setK; rw [dU_s]; exact hfi
      refine (sp_lpO hG hX ht hlv hV (d := d' + 8) (n := n) hd 39 g (setK D n 6) (bl t (p + 1)) h1 (by omega) Q2 hI hn hk1 hf1 hg).mono fun o h3 hq3 => PX.pre Q3 hq3 (fun D2 p2 z => ?_) (by show 0 + (4 * (40 - D.1) + 5) ≤ _; omega)
      show 0 + (4 * (D2.1 - D.1) - 0) ≤ _
      omega
  · omega
/-- a box too deep -/
theorem sp_boxX {d n p : Nat} {h : mv_H} {D : dS} (hG : mv_ok G) (hX : mv_okX l G) (ht : tOk t) (hd : 8 ≤ d) (H : RS G h r c A s t p D) (hp : p < t.length) (hn : n < D.1) : mv_rq l G mX2_readArray (d + 1) 0 (mv_in [.ref r, .int (nI n), .int (nI 7)] 4) [] h (fun o h1 => ∃ E, o = .inr (xIA, E) ∧ IL G h h1 r c A s p 1) ∧ mv_rq l G mX2_readObject (d + 1) 0 (mv_in [.ref r, .int (nI n), .int (nI 7)] 4) [] h (fun o h1 => ∃ E, o = .inr (xIA, E) ∧ IL G h h1 r c A s p 1) := by
  obtain ⟨d', rfl⟩ : ∃ d', d = d' + 8 := ⟨d - 8, by omega⟩
  refine ⟨v_X2_readArray hG ?_, v_X2_readObject hG ?_⟩
  · unfold w_X2_readArray
    refine vob_of H.1 ((sp_openHolder (kd := 5) (lv := 7) hG hX H ht hn hp (by omega)).mono fun o h1 hq => ?_)
    rcases hq with ⟨z, _⟩ | ⟨_, E, e1, e2⟩
    · omega
    · exact Or.inr ⟨_, e1, _, rfl, e2⟩
  · unfold w_X2_readObject
    refine vob_of H.1 ((sp_openHolder (kd := 6) (lv := 7) hG hX H ht hn hp (by omega)).mono fun o h1 hq => ?_)
    rcases hq with ⟨z, _⟩ | ⟨_, E, e1, e2⟩
    · omega
    · exact Or.inr ⟨_, e1, _, rfl, e2⟩
/-- what a value does at level lv, from what lies in it -/
def pI (t : List Nat) (lv : Nat) (n : Nat) (D : dS) (p : Nat) : (dS × Nat) ⊕ Nat := if lk t p = 91 ∨ lk t p = 123 then (match lv with
  | 0 => .inr p
  | lv + 1 => pB t (fun D' p' nm' => pV t lv D' p' (some n) nm') (lk t p == 123) n D p) else pL t n D p
theorem pV_I {lv : Nat} {D : dS} {p : Nat} {ou : Option Nat} {nm : List Nat} : pV t lv D p ou nm = if 40 ≤ D.1 then .inr (bl t p) else pF t D.1 (pI t lv D.1 (addD D ou nm (bl t p)) (bl t p)) := by
  cases lv with
  | zero =>
    rw [pV]
    unfold pI
    split
    · rfl
    · split
      · rfl
      · rfl
  | succ lv =>
    rw [pV]
    unfold pI
    split
    · rfl
    · split
      · rfl
      · rfl
theorem VCl (hG : mv_ok G) (hX : mv_okX l G) (hT : mv_t G 0 ≠ mv_t G 1) (ht : tOk t) : ∀ lv, lv ≤ 6 → VC l G r c A s t lv := by
  intro lv
  induction lv with
  | zero => exact fun _ => VCs 0 (fun lv z => absurd z (by omega)) (by omega)
  | succ lv ih => exact fun hl => VCs (lv + 1) (fun lv' z => by
      have : lv' = lv := by omega
      subst this
      exact ih (by omega)) hl
where
  VCs (lv : Nat) (ih : ∀ lv', lv = lv' + 1 → VC l G r c A s t lv') (hlv : lv ≤ 6) : VC l G r c A s t lv := by
    intro d g D p ou nm b h hd H hI hou hb
    have hcb := H.2.2.2.2.2.1.2.2.2
    obtain ⟨d, rfl⟩ : ∃ d', d = d' + 1 := ⟨d - 1, by omega⟩
    rw [pV_I]
    refine v_X2_readValue hG ?_
    unfold w_X2_readValue
    refine vgb_of H.1 rfl (vob_of H.2.1 (vU_of (sp_skipBlanks hG H.2.1 H.2.2.2.1 H.2.2.2.2.2.2.1 hcb (by omega)) ?_))
    obtain ⟨H1, R1⟩ := H.cur (p' := skB t 160 p) (bl_le H.2.2.2.2.2.2.1)
    generalize mv_set h c (curE s (skB t 160 p) (-1)) = h1 at H1 R1
    change RS G h1 r c A s t (bl t p) D at H1
    have h40 := H1.2.2.2.2.2.2.2
    obtain ⟨V, I, d1, d2⟩ := H1.2.2.1
    refine vgb_of H1.1 rfl (vgi_of d1.1 rfl (vif_of (fun cc => ?_) (fun cc => ?_)))
    · have hlt : D.1 < 40 := by
        rw [Int32.lt_iff_toInt_lt, nI_toInt (by omega)] at cc
        have : (40 : Int32).toInt = 40 := rfl
        omega
      rw [if_neg (by omega)]
      refine v_X2_readValue_33 hG ?_
      unfold w_X2_readValue_33
      obtain ⟨z, z1, z2⟩ := H1.2.2.2.2.1.2.2.1
      refine vgb_of H1.1 rfl (vgb_of H1.1 rfl (vgi_of H1.2.1 rfl (vob_of d1.1 ?_)))
      obtain ⟨d', rfl⟩ : ∃ d', d = d' + 2 := ⟨d - 2, by omega⟩
      have hoA : ∀ o, ou = some o → o < D.1 ∧ (nki (D.2 o)).length < 40 ∧ nsz (D.2 o) = nI (nki (D.2 o)).length := fun o ho => by
        obtain ⟨o1, o2, _⟩ := hou.1 o ho
        refine ⟨o1, ?_, hI.2.2.2.1 o o1 ⟨fun z => ?_, fun z => ?_⟩⟩
        · have : (nki (D.2 o)).length ≤ D.1 := by
            rw [hI.2.2.1 o o1]
            exact ic_len kF_sorted (fun x hx => (kF_m.mp hx).1)
          omega
        · rw [z] at o2; unfold isB at o2; exact absurd o2 (by decide)
        · rw [z] at o2; unfold isB at o2; exact absurd o2 (by decide)
      refine (sp_dadd (d := d') (be := bl t p) hG hT H1.wf.1 H1.wf.2 d1 d2 hlt hoA (R1.2.s hb) z1 z2).mono fun o h2 hq => ?_
      obtain ⟨Q1, Q2, Q3⟩ := hq
      have hd1 : (addD D ou nm (bl t p)).1 = D.1 + 1 := addD1
      obtain ⟨H2, R2⟩ := H1.doc (D' := addD D ou nm (bl t p)) Q3 (by rw [hd1]; exact Q2) (by rw [hd1]; omega)
      have R02 := R1.tr R2 (k := 0) (by omega)
      refine Or.inl ⟨_, Q1, ?_⟩
      obtain ⟨V2, I2, e1, e2⟩ := H2.2.2.1
      refine vgb_of H2.1 rfl (vNd e1 hlt rfl (vgb_of H2.1 rfl (vob_of H2.2.1 ?_)))
      refine vI_of (sp_look hG H2.2.1 H2.2.2.2.1 H2.2.2.2.2.2.2.1 (by omega)) ?_
      -- the end of every way
      have fin : ∀ (D2 : dS) (p2 : Nat) (h3 : mv_H) (k : Nat), D.1 + 1 ≤ D2.1 → k ≤ 4 * (D2.1 - D.1) - 2 → RS G h3 r c A s t p2 D2 → rst G h2 h3 A c k → mv_rq l G mX2_readValue (d' + 2 + 1) 133 [some (.ref r), none, none, none, none, some (.ref (A + 43 + D.1))] [] h3 (PX G h r c A s t D 2 1 (pF t D.1 (.inl (D2, p2)))) := fun D2 p2 h3 k hk1 hk2 H3 R3 => by
        refine (sp_133 hG H3 ht (by omega) (by omega)).mono fun o h4 hq4 => ?_
        refine ⟨hq4.1, hq4.2.1, ?_⟩
        show rst G h h4 A c (4 * (D2.1 - D.1) - 2)
        exact (R02.tr R3 (k := k) (by omega)).tr hq4.2.2 (by omega)
      have bad : ∀ (w : Nat) (h3 : mv_H) (k : Nat), IL G h2 h3 r c A s w k → k ≤ 4 * (40 - D.1) + 1 → IL G h h3 r c A s w (4 * (40 - D.1) + 1) := fun w h3 k i hk => IL.pre R02 i (by omega)
      have e91 : (nI (lk t (bl t p)) = 91) = (lk t (bl t p) = 91) := propext ⟨fun z => (nI_eq (b := 91) (by have := lk_126 ht (bl t p); omega) (by omega)).mp z, fun z => by rw [z]; rfl⟩
      have e123 : (nI (lk t (bl t p)) = 123) = (lk t (bl t p) = 123) := propext ⟨fun z => (nI_eq (b := 123) (by have := lk_126 ht (bl t p); omega) (by omega)).mp z, fun z => by rw [z]; rfl⟩
      rw [e91, e123]
      have hdep : nI (6 - lv) + 1 = nI (7 - lv) := by rw [nI_1]; congr 1; omega
      rw [hdep]
      have hnn : D.1 < (addD D ou nm (bl t p)).1 := by rw [hd1]; omega
      obtain ⟨pl, hs⟩ := addD_s (D := D) (ou := ou) (nm := nm) (be := bl t p)
      -- a box
      have box : lk t (bl t p) = 91 ∨ lk t (bl t p) = 123 → bl t p < t.length := fun z => by
        rcases z with z | z
        · exact lk_lt z (by decide)
        · exact lk_lt z (by decide)
      have inv : ∀ lv', lv = lv' + 1 → ∀ ob : Bool, ∃ g', dI t g' (setK (addD D ou nm (bl t p)) D.1 (obK ob)) ∧ g' D.1 + 1 + lv' = 6 := fun lv' el ob => by
        obtain ⟨g', y1, y2, y3, y4⟩ := dI_add (be := bl t p) hI hlt (fun o e => by have := hou.1 o e; exact ⟨this.1, this.2.1, this.2.2.1, by omega, this.2.2.2.2⟩) hou.2.2
        have hK : setK (addD D ou nm (bl t p)) D.1 (obK ob) = setP (addD D ou nm (bl t p)) D.1 (obK ob) 0 [] := by
          unfold setK setP
          rw [hs]
          rfl
        refine ⟨g', ?_, ?_⟩
        · rw [hK]
          exact dI_U y4 (by rw [hd1]; omega) (by rw [hs]; rfl) (fun _ => rfl) (fun z => by cases ob <;> exact absurd z (by decide)) (by
            refine Or.inr (Or.inr (Or.inr (Or.inr (Or.inr ?_))))
            cases ob
            · exact Or.inl rfl
            · exact Or.inr rfl)
        · cases ou with
          | none => rw [y3 rfl]; have := hou.2.1 rfl; omega
          | some o => rw [y2 o rfl]; have := (hou.1 o rfl).2.2.2.1; omega
      have hfi : nfi ((addD D ou nm (bl t p)).2 D.1) = none := by rw [hs]; rfl
      refine vif_of (fun c1 => vob_of H2.1 ?_) (fun c1 => vif_of (fun c2 => vob_of H2.1 ?_) (fun c2 => vgb_of H2.1 rfl (vob_of H2.2.1 ?_)))
      · unfold pI
        rw [if_pos (Or.inl c1)]
        cases lv with
        | zero =>
          refine ((sp_boxX (d := d' + 1) hG hX ht (by omega) H2 (box (Or.inl c1)) hnn).1).mono fun o h3 hq3 => ?_
          obtain ⟨E, x1, x2⟩ := hq3
          exact Or.inr ⟨_, x1, _, rfl, bad _ _ _ x2 (by omega)⟩
        | succ lv' =>
          obtain ⟨g', i1, i2⟩ := inv lv' rfl false
          have hb3 : (lk t (bl t p) == 123) = false := by rw [c1]; rfl
          simp only [hb3]
          rw [show 7 - (lv' + 1) = 6 - lv' by omega]
          refine (sp_boxA (d := d' + 1) hG hX ht (by omega) (ih lv' rfl) (by omega) H2 (box (Or.inl c1)) hnn i1 hfi i2).mono fun o h3 hq3 => ?_
          cases hpb : pB t (fun D' p' nm' => pV t lv' D' p' (some D.1) nm') false D.1 (addD D ou nm (bl t p)) (bl t p) with
          | inl q =>
            obtain ⟨D2, p2⟩ := q
            rw [hpb] at hq3
            refine Or.inl ⟨hq3.1, fin D2 p2 h3 (4 * (D2.1 - (addD D ou nm (bl t p)).1) - 0) ?_ ?_ hq3.2.1 hq3.2.2⟩
            · exact pB_ge ht (by omega) i1 hnn hs i2 (box (Or.inl c1)) hpb
            · have := pB_ge ht (by omega) i1 hnn hs i2 (box (Or.inl c1)) hpb
              rw [hd1]; omega
          | inr w =>
            rw [hpb] at hq3
            obtain ⟨E, x1, x2⟩ := hq3
            exact Or.inr ⟨_, x1, _, rfl, bad _ _ (4 * (40 - (addD D ou nm (bl t p)).1) + 5) x2 (by rw [hd1]; omega)⟩
      · unfold pI
        rw [if_pos (Or.inr c2)]
        cases lv with
        | zero =>
          refine ((sp_boxX (d := d' + 1) hG hX ht (by omega) H2 (box (Or.inr c2)) hnn).2).mono fun o h3 hq3 => ?_
          obtain ⟨E, x1, x2⟩ := hq3
          exact Or.inr ⟨_, x1, _, rfl, bad _ _ _ x2 (by omega)⟩
        | succ lv' =>
          obtain ⟨g', i1, i2⟩ := inv lv' rfl true
          have hb3 : (lk t (bl t p) == 123) = true := by rw [c2]; rfl
          simp only [hb3]
          rw [show 7 - (lv' + 1) = 6 - lv' by omega]
          refine (sp_boxO (d := d' + 1) hG hX ht (by omega) (ih lv' rfl) (by omega) H2 (box (Or.inr c2)) hnn i1 hfi i2).mono fun o h3 hq3 => ?_
          cases hpb : pB t (fun D' p' nm' => pV t lv' D' p' (some D.1) nm') true D.1 (addD D ou nm (bl t p)) (bl t p) with
          | inl q =>
            obtain ⟨D2, p2⟩ := q
            rw [hpb] at hq3
            refine Or.inl ⟨hq3.1, fin D2 p2 h3 (4 * (D2.1 - (addD D ou nm (bl t p)).1) - 0) ?_ ?_ hq3.2.1 hq3.2.2⟩
            · exact pB_ge ht (by omega) i1 hnn hs i2 (box (Or.inr c2)) hpb
            · have := pB_ge ht (by omega) i1 hnn hs i2 (box (Or.inr c2)) hpb
              rw [hd1]; omega
          | inr w =>
            rw [hpb] at hq3
            obtain ⟨E, x1, x2⟩ := hq3
            exact Or.inr ⟨_, x1, _, rfl, bad _ _ (4 * (40 - (addD D ou nm (bl t p)).1) + 5) x2 (by rw [hd1]; omega)⟩
      · unfold pI
        rw [if_neg (by omega)]
        refine (sp_plainD hG hX H2 ht hnn (by omega)).mono fun o h3 hq3 => ?_
        cases hpl : pL t D.1 (addD D ou nm (bl t p)) (bl t p) with
        | inl q =>
          obtain ⟨D2, p2⟩ := q
          rw [hpl] at hq3
          have hd2 : D2.1 = D.1 + 1 := by
            unfold pL at hpl
            split at hpl
            · cases hpl
            · cases hpl; exact hd1
          exact Or.inl ⟨hq3.1, fin D2 p2 h3 2 (by omega) (by omega) hq3.2.1 hq3.2.2⟩
        | inr w =>
          rw [hpl] at hq3
          obtain ⟨E, x1, x2⟩ := hq3
          exact Or.inr ⟨_, x1, _, rfl, bad _ _ _ x2 (by omega)⟩
    · have hge : 40 ≤ D.1 := by
        rw [Int32.lt_iff_toInt_lt, nI_toInt (by omega)] at cc
        have : (40 : Int32).toInt = 40 := rfl
        omega
      rw [if_pos hge]
      refine vgb_of H1.1 rfl (vgb_of H1.1 rfl (vgi_of H1.2.1 rfl (vob_of H1.2.1 ?_)))
      refine (sp_refuse hG hX H1.2.1 hcb (by omega)).mono fun o h3 hq => Or.inr ⟨_, hq.1, _, rfl, ?_⟩
      rw [← hq.2]
      exact IL.pre R1 H1.ill (by omega)
  pB_ge {lv n : Nat} {ob : Bool} {D : dS} {g : Nat → Nat} {p : Nat} {D2 : dS} {p2 : Nat} {nm : List Nat} {ou : Option Nat} {pl be : Nat} (ht : tOk t) (hlv : lv ≤ 5) (hI : dI t g (setK D n (obK ob))) (hn : n < D.1) (hs : D.2 n = nwR nm ou pl be) (hg : g n + 1 + lv = 6) (hp : p < t.length) (h : pB t (fun D' p' nm' => pV t lv D' p' (some n) nm') ob n D p = .inl (D2, p2)) : n + 1 ≤ D2.1 := by
    unfold pB at h
    by_cases hcl : lk t (bl t (p + 1)) = obC ob
    · rw [if_pos (show lk t (bl t (p + 1)) = (if ob = true then 125 else 93) from hcl)] at h
      cases h
      exact hn
    · rw [if_neg (show ¬ lk t (bl t (p + 1)) = (if ob = true then 125 else 93) from hcl)] at h
      have hk1 : nkd ((setK D n (obK ob)).2 n) = obK ob := by unfold setK; rw [dU_s]
      have hf1 : nfi ((setK D n (obK ob)).2 n) = none := by unfold setK; rw [dU_s, hs]; rfl
      obtain ⟨_, _, _, b3, _⟩ := EIl ht (VIl ht lv (by omega)) (ob := ob) 40 g (setK D n (obK ob)) (bl t (p + 1)) D2 p2 hI hn hk1 hf1 hg (bl_le (by omega)) h
      have : (setK D n (obK ob)).1 = D.1 := rfl
      omega
end RX
