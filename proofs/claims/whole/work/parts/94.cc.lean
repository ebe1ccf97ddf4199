/-! builders of texts -/
theorem shr0 (x : Int32) : x >>> ((0 : Int32) &&& 31) = x := by
  rw [show (0 : Int32) &&& 31 = 0 from rfl]
  exact Int32.shiftRight_zero
theorem shl0 (x : Int32) : x <<< ((0 : Int32) &&& 31) = x := by
  rw [show (0 : Int32) &&& 31 = 0 from rfl]
  exact Int32.shiftLeft_zero
/-- texts stay, but for the array v -/
def ksV (G : mv_G) (h h1 : mv_H) (v : Nat) : Prop := (∀ q e, h.2.2 q = some e → isTx G e → q ≠ v → h1.2.2 q = some e) ∧ h.1 ≤ h1.1 ∧ ∀ (a q : Nat) (x : List Value), h1.2.2 a = some (.inr (0, .ref q :: x)) → h.2.2 a = some (.inr (0, .ref q :: x))
theorem ksV.rf {G : mv_G} {h : mv_H} {v : Nat} : ksV G h h v := ⟨fun _ _ z _ _ => z, Nat.le_refl _, fun _ _ _ z => z⟩
theorem ksV.tr {G : mv_G} {h h1 h2 : mv_H} {v : Nat} (a : ksV G h h1 v) (b : ksV G h1 h2 v) : ksV G h h2 v := ⟨fun q e z w n => b.1 q e (a.1 q e z w n) w n, Nat.le_trans a.2.1 b.2.1, fun c q x z => a.2.2 c q x (b.2.2 c q x z)⟩
theorem ksV.set {G : mv_G} {h : mv_H} {a v : Nat} {e0 e : va_E} (ha : h.2.2 a = some e0) (h0 : ¬ isTx G e0) (he : ∀ fs, e ≠ .inr (0, fs) := by intro fs z; simp at z) : ksV G h (mv_set h a e) v := by
  refine ⟨fun q e' hq ht _ => (ksT.set ha h0 he).1 q e' hq ht, Nat.le_refl _, fun b q x z => ?_⟩
  by_cases c : b = a
  · subst c
    rw [hs_s] at z
    exact absurd (Option.some.inj z) (he _)
  · rw [hs_n c] at z; exact z
/-- a builder was changed: itself, its array, or a new one -/
def sbF (G : mv_G) (h h1 : mv_H) (b v v' k : Nat) : Prop := hst G h h1 (fun a => a = b ∨ a = v) k (2 * k) ∧ ksV G h h1 v ∧ (v' = v ∨ h.1 ≤ v')
theorem sbF.tr {G : mv_G} {h h1 h2 : mv_H} {b v v' v'' k k1 k2 : Nat} (hw : mv_wf h) (a : sbF G h h1 b v v' k1) (c : sbF G h1 h2 b v' v'' k2) (hk : k1 + k2 ≤ k) : sbF G h h2 b v v'' k := by
  obtain ⟨a1, ⟨a2, a3, a4⟩, a5⟩ := a
  obtain ⟨c1, ⟨c2, c3, c4⟩, c5⟩ := c
  refine ⟨a1.tr c1 (fun _ _ z => z) (fun x hx z => ?_) hk (by omega), ⟨fun q e hq ht hv => ?_, Nat.le_trans a3 c3, fun x q y hz => ?_⟩, ?_⟩
  · rcases z with z | z
    · exact Or.inl z
    · rcases a5 with w | w
      · exact Or.inr (by rw [z, w])
      · omega
  · refine c2 q e (a2 q e hq ht hv) ht ?_
    rcases a5 with w | w
    · rw [w]; exact hv
    · intro z
      have := mv_wf_lt hw hq
      omega
  · exact a4 x q y (c4 x q y hz)
  · rcases c5 with w | w
    · rw [w]; exact a5
    · exact Or.inr (Nat.le_trans a3 w)
/-- what a builder's change costs: its new room -/
def sbG (G : mv_G) (h h1 : mv_H) (b v v' cap cap' : Nat) : Prop := sbF G h h1 b v v' (cap' - cap) ∧ cap ≤ cap'
theorem sbG.tr {G : mv_G} {h h1 h2 : mv_H} {b v v' v'' c0 c1 c2 : Nat} (hw : mv_wf h) (a : sbG G h h1 b v v' c0 c1) (c : sbG G h1 h2 b v' v'' c1 c2) : sbG G h h2 b v v'' c0 c2 := ⟨a.1.tr hw c.1 (by have := a.2; have := c.2; omega), Nat.le_trans a.2 c.2⟩
theorem sbG.trF {G : mv_G} {h h1 h2 : mv_H} {b v v' c0 c1 : Nat} (hw : mv_wf h) (a : sbG G h h1 b v v' c0 c1) (c : sbF G h1 h2 b v' v' 0) : sbG G h h2 b v v' c0 c1 := ⟨a.1.tr hw c (Nat.le_refl _), a.2⟩
section SB
variable {l : Launch} {G : mv_G} {d b v cap : Nat} {h : mv_H} {t : List Nat}
theorem sp_sbLen (hG : mv_ok G) (hS : mv_sb G h b v cap t) : mv_rq l G mJ4_length_8abf5 (d + 1) 0 (mv_in [.ref b] 1) [] h (fun o h1 => o = .inl (some (.int (nI t.length))) ∧ h = h1) := by
  obtain ⟨f, mb, s1, s2, _⟩ := hS
  refine v_J4_length_8abf5 hG ?_
  unfold w_J4_length_8abf5
  refine vob_of s1 (vI_of (v_J5_length_8abf5 hG ?_) ⟨rfl, rfl⟩)
  unfold w_J5_length_8abf5
  exact vgi_of s1 rfl ⟨rfl, rfl⟩
theorem sp_sbLat (hG : mv_ok G) (hS : mv_sb G h b v cap t) : mv_rq l G mJ5_isLatin1_aae02 d 0 (mv_in [.ref b] 1) [] h (fun o h1 => o = .inl (some (.int 1)) ∧ h = h1) := by
  obtain ⟨f, mb, s1, s2, _⟩ := hS
  refine v_J5_isLatin1_aae02 hG ?_
  unfold w_J5_isLatin1_aae02
  exact vgi_of s1 rfl (vif_y rfl ⟨rfl, rfl⟩)
theorem sp_newLen {n : Nat} (hG : mv_ok G) (hX : mv_okX l G) (hS : mv_sb G h b v cap t) (h1 : cap < n) (h2 : n ≤ 300) (hd : 6 ≤ d) : mv_rq l G mJ5_newCapacity_0f7a4 (d + 1) 0 (mv_in [.ref b, .int (nI n)] 6) [] h (fun o h1 => o = .inl (some (.int (nI (cap + max (n - cap) (cap + 2))))) ∧ h = h1) := by
  obtain ⟨f, mb, s1, s2, _⟩ := hS
  refine v_J5_newCapacity_0f7a4 hG hX hd ?_
  unfold w_J5_newCapacity_0f7a4
  refine vgb_of s1 rfl (vln_of s2 (vgi_of s1 rfl (vgi_of s1 rfl ?_)))
  rw [shl0, shl0]
  have e1 : nI n - nI cap = nI (n - cap) := by
    refine Int32.toInt_inj.mp ?_
    rw [show n = (n - cap) + cap by omega, ← nI_add, Int32.add_sub_cancel]
    congr 2
    omega
  have e2 : nI cap + 2 = nI (cap + 2) := by rw [show (2 : Int32) = nI 2 from rfl, nI_add]
  show mv_rq l G mJ8_newLength_cabcc d 0 (mv_in [.int (nI cap), .int (nI n - nI cap), .int (nI cap + 2)] 4) [] h _
  rw [e1, e2]
  obtain ⟨d, rfl⟩ : ∃ d', d = d' + 1 := ⟨d - 1, by omega⟩
  have hmx : (if nI (n - cap) < nI (cap + 2) then nI (cap + 2) else nI (n - cap)) = nI (max (n - cap) (cap + 2)) := by
    by_cases c : n - cap < cap + 2
    · rw [if_pos (nI_lt c (by omega))]; congr 1; omega
    · rw [if_neg (nI_nlt (by omega) (by omega))]; congr 1; omega
  refine vI_of (x := nI (cap + max (n - cap) (cap + 2))) (h' := h) (v_J8_newLength_cabcc hG ?_) ?_
  · unfold w_J8_newLength_cabcc
    rw [hmx, nI_add]
    refine vif_n (nI_nle (by omega) (by omega)) (vif_n ?_ ⟨rfl, rfl⟩)
    rw [show (2147483639 : Int32) = nI 2147483639 from rfl]
    exact nI_nlt (by omega) (by omega)
  · refine vif_n ?_ (vgi_of s1 rfl ?_)
    · rw [show (2147483647 : Int32) = nI 2147483647 from rfl]
      intro z
      have := (nI_eq (by omega) (by omega)).mp z
      omega
    · rw [shr0]
      exact ⟨rfl, rfl⟩
end SB
