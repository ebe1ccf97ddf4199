/-! rows of nodes on the heap -/
abbrev xUO : String := "java/lang/UnsupportedOperationException"
def hrw (G : mv_G) (h : mv_H) (R : Nat) (row : List Nat) : Prop := h.2.2 R = some (.inr (8, [.ref (R + 1), .int (nI row.length)])) ∧ (∃ f, h.2.2 (R + 1) = some (.inl (mv_t G 1, 300, .inl f)) ∧ ∀ j, j < row.length → f j = nI (lk row j)) ∧ row.length ≤ 300 ∧ G.2.2.1 ≤ R
abbrev inR (R : Nat) : Nat → Prop := fun a => a = R ∨ a = R + 1
theorem hrw.fr {G : mv_G} {h h1 : mv_H} {R : Nat} {row : List Nat} (hr : hrw G h R row) (k1 : h1.2.2 R = h.2.2 R) (k2 : h1.2.2 (R + 1) = h.2.2 (R + 1)) : hrw G h1 R row := by
  obtain ⟨a, ⟨f, b, c⟩, d, e⟩ := hr
  exact ⟨by rw [k1]; exact a, ⟨f, by rw [k2]; exact b, c⟩, d, e⟩
theorem hst.thr {G : mv_G} {h : mv_H} {W : Nat → Prop} (hw : mv_wf h) (hb : G.2.2.1 ≤ h.1) : hst G h (thr h) W 1 6 :=
  ⟨fun a ha => hw a (by have : h.1 + 1 ≤ a := ha; omega), by show _ ≤ h.1 + 1; omega, by show _ ≤ h.1 + 1; omega, by show h.1 + 1 ≤ _; omega, by show _ ≤ h.2.1 + 6; omega, by show h.2.1 + 6 ≤ _; omega, fun a _ _ => rfl⟩
theorem hst.mn {G : mv_G} {h h1 : mv_H} {W W' : Nat → Prop} {c s c' s' : Nat} (k : hst G h h1 W c s) (hw : ∀ a, a < h.1 → W a → W' a) (hc : c ≤ c') (hs : s ≤ s') : hst G h h1 W' c' s' :=
  ⟨k.1, k.2.1, k.2.2.1, by have := k.2.2.2.1; omega, k.2.2.2.2.1, by have := k.2.2.2.2.2.1; omega, fun a ha hn => k.2.2.2.2.2.2 a ha (fun z => hn (hw a ha z))⟩
section RW
variable {l : Launch} {G : mv_G} {d R : Nat} {h : mv_H} {row : List Nat}
theorem sp_rclear (hG : mv_ok G) (hr : hrw G h R row) (hw : mv_wf h) (hb : G.2.2.1 ≤ h.1) : mv_rq l G mX6_clear d 0 (mv_in [.ref R] 1) [] h (fun o h1 => o = .inl none ∧ hrw G h1 R [] ∧ hst G h h1 (inR R) 0 0) := by
  obtain ⟨a, ⟨f, b, c⟩, e, g⟩ := hr
  refine v_X6_clear hG ?_
  unfold w_X6_clear
  refine vpu_of a g (show 1 < 2 by omega) rfl ⟨rfl, ⟨hs_s, ⟨f, ?_, fun j hj => absurd hj (Nat.not_lt_zero _)⟩, by simp, g⟩, hst.set hw hb a (Or.inl rfl)⟩
  rw [hs_n (by omega)]
  exact b
theorem sp_radd {n : Nat} (hG : mv_ok G) (hX : mv_okX l G) (hr : hrw G h R row) (hw : mv_wf h) (hb : G.2.2.1 ≤ h.1) (hd : 6 ≤ d) : mv_rq l G mX6_add (d + 1) 0 (mv_in [.ref R, .int (nI n)] 2) [] h (fun o h1 => (row.length < 300 ∧ o = .inl none ∧ hrw G h1 R (row ++ [n]) ∧ hst G h h1 (inR R) 0 0) ∨ (300 ≤ row.length ∧ o = .inr (xUO, h.1) ∧ thr h = h1)) := by
  obtain ⟨a, ⟨f, b, c⟩, e, g⟩ := hr
  have el : (nI row.length).toInt = row.length := nI_toInt (by omega)
  have e3 : (300 : Int32).toInt = 300 := rfl
  refine v_X6_add hG hX hd ?_
  unfold w_X6_add
  refine vgi_of a rfl (vif_of (fun k => ?_) (fun k => ?_))
  · rw [Int32.lt_iff_toInt_lt, el, e3] at k
    refine vgb_of a rfl (vgi_of a rfl (vsi_of (j := row.length) b (by omega) rfl (by omega) (by omega) ?_))
    have a' : (mv_set h (R + 1) (.inl (mv_t G 1, 300, .inl (upd f row.length (nI n))))).2.2 R = some (.inr (8, [.ref (R + 1), .int (nI row.length)])) := by rw [hs_n (by omega)]; exact a
    refine vgi_of a' rfl (vpu_of a' g (show 1 < 2 by omega) rfl (Or.inl ⟨by omega, rfl, ⟨?_, ⟨upd f row.length (nI n), ?_, fun j hj => ?_⟩, by simp; omega, g⟩, ?_⟩))
    · rw [hs_s, nI_1]; simp
    · rw [hs_n (by omega), hs_s]
    · simp at hj
      rw [lk_app]
      by_cases ej : j = row.length
      · rw [ej, upd_s, if_neg (by omega), if_pos rfl]
      · rw [upd_n ej, if_pos (by omega)]
        exact c j (by omega)
    · refine (hst.set (G := G) (W := inR R) (c := 0) (s := 0) hw hb b (Or.inr rfl)).tr (hst.set (G := G) (W := inR R) (c := 0) (s := 0) (mv_wf_set hw b) hb a' (Or.inl rfl)) (fun _ _ z => z) (fun _ _ z => z) (by omega) (by omega)
  · rw [Int32.lt_iff_toInt_lt, el, e3] at k
    exact Or.inr ⟨by omega, rfl, rfl⟩
end RW
