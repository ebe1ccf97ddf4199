/-! the constructors -/
theorem vsa_of {G : mv_G} {h : mv_H} {a t ci n j x : Nat} {i : Int32} {P : mv_H → Prop} {f : Nat → Option Nat} {vs : List Value} (hf : h.2.2 a = some (.inl (mv_t G t, n, .inr (.inr (.inr (.inr f)))))) (hx : h.2.2 x = some (.inr (ci, vs))) (hb : G.2.2.1 ≤ a) (hi : i = nI j) (hj : j < n) (hn : n < 2 ^ 31) (kk : P (mv_set h a (.inl (mv_t G t, n, .inr (.inr (.inr (.inr (va_up f j (some x))))))))) : vsa G h a t ci i x P := by
  subst hi
  have e : (nI j).toNatClampNeg = j := nI_clamp (by omega)
  exact ⟨n, f, hf, ⟨vs, hx⟩, hb, vp_in_nI hj hn, by rw [e]; exact kk⟩
theorem nw_s {h : mv_H} {n : Nat} {e : va_E} : (mv_new h n e).2.2 h.1 = some e := if_pos rfl
theorem nw_n {h : mv_H} {n b : Nat} {e : va_E} (c : b ≠ h.1) : (mv_new h n e).2.2 b = h.2.2 b := if_neg c
/-- cells k and slots s more; only x is changed; no text is new -/
def gwn (h h1 : mv_H) (x k s : Nat) : Prop := mv_wf h1 ∧ h1.1 = h.1 + k ∧ h1.2.1 = h.2.1 + s ∧ (∀ a, a < h.1 → a ≠ x → h1.2.2 a = h.2.2 a) ∧ ∀ a fs, h1.2.2 a = some (.inr (0, fs)) → h.2.2 a = some (.inr (0, fs))
theorem gwn.set {h : mv_H} {x ci : Nat} {fs : List Value} {e0 : va_E} (hw : mv_wf h) (hx : h.2.2 x = some e0) (hc : ci ≠ 0) : gwn h (mv_set h x (.inr (ci, fs))) x 0 0 := ⟨mv_wf_set hw hx, rfl, rfl, fun a _ n => hs_n n, fun a gs z => by
  by_cases e : a = x
  · subst e
    rw [hs_s] at z
    cases z
    exact absurd rfl hc
  · rw [hs_n e] at z
    exact z⟩
theorem gwn.seta {h : mv_H} {x : Nat} {y : vp_A} {t : ClassId} {e0 : va_E} (hw : mv_wf h) (hx : h.2.2 x = some e0) : gwn h (mv_set h x (.inl (t, y))) x 0 0 := ⟨mv_wf_set hw hx, rfl, rfl, fun a _ n => hs_n n, fun a gs z => by
  by_cases e : a = x
  · subst e
    rw [hs_s] at z
    cases z
  · rw [hs_n e] at z
    exact z⟩
theorem gwn.new {h : mv_H} {x n ci : Nat} {fs : List Value} (hw : mv_wf h) (hc : ci ≠ 0) : gwn h (mv_new h n (.inr (ci, fs))) x 1 n := ⟨mv_wf_new hw, rfl, rfl, fun a q _ => nw_n (by omega), fun a gs z => by
  by_cases e : a = h.1
  · subst e
    rw [nw_s] at z
    cases z
    exact absurd rfl hc
  · rw [nw_n e] at z
    exact z⟩
theorem gwn.newa {h : mv_H} {x n : Nat} {y : vp_A} {t : ClassId} (hw : mv_wf h) : gwn h (mv_new h n (.inl (t, y))) x 1 n := ⟨mv_wf_new hw, rfl, rfl, fun a q _ => nw_n (by omega), fun a gs z => by
  by_cases e : a = h.1
  · subst e
    rw [nw_s] at z
    cases z
  · rw [nw_n e] at z
    exact z⟩
theorem gwn.tr {h h1 h2 : mv_H} {x y k s k' s' : Nat} (a : gwn h h1 x k s) (b : gwn h1 h2 y k' s') (c : y = x ∨ h.1 ≤ y) : gwn h h2 x (k + k') (s + s') := by
  obtain ⟨a1, a2, a3, a4, a5⟩ := a
  obtain ⟨b1, b2, b3, b4, b5⟩ := b
  exact ⟨b1, by omega, by omega, fun q z1 z2 => by rw [b4 q (by omega) (by omega), a4 q z1 z2], fun q fs z => a5 q fs (b5 q fs z)⟩
theorem gwn.at {h h1 : mv_H} {x k s a : Nat} {e : va_E} (g : gwn h h1 x k s) (hw : mv_wf h) (he : h.2.2 a = some e) (n : a ≠ x) : h1.2.2 a = some e := by rw [g.2.2.2.1 a (mv_wf_lt hw he) n]; exact he
theorem gwn.rf {h : mv_H} {x : Nat} (hw : mv_wf h) : gwn h h x 0 0 := ⟨hw, rfl, rfl, fun _ _ _ => rfl, fun _ _ z => z⟩
section KO
variable {l : Launch} {G : mv_G} {d x z : Nat} {h : mv_H} {v0 v1 v2 v3 : Value}
theorem sp_i0 (hG : mv_ok G) (hz : mv_lt G RX0 9 "" z) (hx : h.2.2 x = some (.inr (2, [v0, v1, v2]))) (hb : G.2.2.1 ≤ x) : mv_rq l G mX0_init (d + 1) 0 (mv_in [.ref x] 1) [] h (fun o h1 => o = .inl none ∧ mv_set h x (.inr (2, [.ref z, .int 0, .int (-1)])) = h1) := by
  refine v_X0_init hG ?_
  unfold w_X0_init
  refine vst_of hz (vpu_of hx hb (show 0 < 3 by omega) rfl (vpu_of hs_s hb (show 1 < 3 by omega) rfl (vpu_of hs_s hb (show 2 < 3 by omega) rfl ⟨rfl, ?_⟩)))
  rw [mv_set_set, mv_set_set]
  rfl
theorem sp_i6 (hG : mv_ok G) (hw : mv_wf h) (hx : h.2.2 x = some (.inr (8, [v0, v1]))) (hb : G.2.2.1 ≤ x) (hh : h.1 = x + 1) : mv_rq l G mX6_init (d + 1) 0 (mv_in [.ref x] 1) [] h (fun o h1 => o = .inl none ∧ hrw G h1 x [] ∧ gwn h h1 x 1 300) := by
  refine v_X6_init hG ?_
  unfold w_X6_init
  have n : x ≠ h.1 := by omega
  have e1 : (mv_new h 300 (.inl (mv_t G 1, 300, .inl (fun _ => 0)))).2.2 x = some (.inr (8, [v0, v1])) := by rw [nw_n n]; exact hx
  refine vnw_of (vpu_of e1 hb (show 0 < 2 by omega) rfl (vpu_of hs_s hb (show 1 < 2 by omega) rfl ⟨rfl, ?_, ?_⟩))
  · rw [mv_set_set]
    refine ⟨?_, ⟨fun _ => 0, ?_, fun j hj => absurd hj (Nat.not_lt_zero _)⟩, Nat.zero_le _, hb⟩
    · rw [hs_s]
      rw [hh]
      rfl
    · rw [hs_n (by omega), ← hh]
      exact nw_s
  · rw [mv_set_set]
    exact (gwn.newa hw).tr (gwn.set (mv_wf_new hw) e1 (by decide)) (Or.inl rfl)
theorem sp_i2 (hG : mv_ok G) (hz : mv_lt G RX0 9 "" z) (hw : mv_wf h) (hx : h.2.2 x = some (.inr (4, [v0, v1]))) (hb : G.2.2.1 ≤ x) (hh : h.1 = x + 1) (hd : 1 ≤ d) : mv_rq l G mX2_init (d + 1) 0 (mv_in [.ref x] 1) [] h (fun o h1 => o = .inl none ∧ (h1.2.2 x = some (.inr (4, [.ref (x + 1), .null])) ∧ h1.2.2 (x + 1) = some (.inr (2, [.ref z, .int 0, .int (-1)]))) ∧ gwn h h1 x 1 3) := by
  obtain ⟨d, rfl⟩ : ∃ d', d = d' + 1 := ⟨d - 1, by omega⟩
  refine v_X2_init hG ?_
  unfold w_X2_init
  have n : x ≠ h.1 := by omega
  refine vnw_of (vU_of (sp_i0 hG hz nw_s (by omega)) ?_)
  have g1 : gwn h (mv_new h 3 (.inr (2, [.null, .int 0, .int 0]))) x 1 3 := gwn.new hw (by decide)
  have g2 := g1.tr (gwn.set (fs := [.ref z, .int 0, .int (-1)]) (ci := 2) g1.1 nw_s (by decide)) (Or.inr (Nat.le_refl h.1))
  have e1 : (mv_set (mv_new h 3 (.inr (2, [.null, .int 0, .int 0]))) h.1 (.inr (2, [.ref z, .int 0, .int (-1)]))).2.2 x = some (.inr (4, [v0, v1])) := by rw [hs_n n, nw_n n]; exact hx
  refine vpu_of e1 hb (show 0 < 2 by omega) rfl (vpu_of hs_s hb (show 1 < 2 by omega) rfl ⟨rfl, ?_, ?_⟩)
  · rw [mv_set_set]
    refine ⟨?_, ?_⟩
    · rw [hs_s, hh]
      rfl
    · rw [hs_n (by omega), ← hh]
      exact hs_s
  · rw [mv_set_set]
    exact g2.tr (gwn.set g2.1 e1 (by decide)) (Or.inl rfl)
theorem sp_i5 (hG : mv_ok G) (hz : mv_lt G RX0 9 "" z) (hw : mv_wf h) (hx : h.2.2 x = some (.inr (7, [v0, v1]))) (hb : G.2.2.1 ≤ x) (hh : h.1 = x + 1) (hd : 1 ≤ d) : mv_rq l G mX5_init (d + 1) 0 (mv_in [.ref x] 1) [] h (fun o h1 => o = .inl none ∧ (h1.2.2 x = some (.inr (7, [.ref (x + 1), .null])) ∧ h1.2.2 (x + 1) = some (.inr (2, [.ref z, .int 0, .int (-1)]))) ∧ gwn h h1 x 1 3) := by
  obtain ⟨d, rfl⟩ : ∃ d', d = d' + 1 := ⟨d - 1, by omega⟩
  refine v_X5_init hG ?_
  unfold w_X5_init
  have n : x ≠ h.1 := by omega
  refine vnw_of (vU_of (sp_i0 hG hz nw_s (by omega)) ?_)
  have g1 : gwn h (mv_new h 3 (.inr (2, [.null, .int 0, .int 0]))) x 1 3 := gwn.new hw (by decide)
  have g2 := g1.tr (gwn.set (fs := [.ref z, .int 0, .int (-1)]) (ci := 2) g1.1 nw_s (by decide)) (Or.inr (Nat.le_refl h.1))
  have e1 : (mv_set (mv_new h 3 (.inr (2, [.null, .int 0, .int 0]))) h.1 (.inr (2, [.ref z, .int 0, .int (-1)]))).2.2 x = some (.inr (7, [v0, v1])) := by rw [hs_n n, nw_n n]; exact hx
  refine vpu_of e1 hb (show 0 < 2 by omega) rfl (vpu_of hs_s hb (show 1 < 2 by omega) rfl ⟨rfl, ?_, ?_⟩)
  · rw [mv_set_set]
    refine ⟨?_, ?_⟩
    · rw [hs_s, hh]
      rfl
    · rw [hs_n (by omega), ← hh]
      exact hs_s
  · rw [mv_set_set]
    exact g2.tr (gwn.set g2.1 e1 (by decide)) (Or.inl rfl)
theorem sp_iB (hG : mv_ok G) (hw : mv_wf h) (hx : h.2.2 x = some (.inr (1, [v0, .int 0, .int 0, .int 0]))) (hb : G.2.2.1 ≤ x) (hh : h.1 = x + 1) (hd : 1 ≤ d) : mv_rq l G mJ4_init_da8c8 (d + 1) 0 (mv_in [.ref x] 1) [] h (fun o h1 => o = .inl none ∧ mv_sb G h1 x (x + 1) 16 [] ∧ gwn h h1 x 1 16) := by
  obtain ⟨d, rfl⟩ : ∃ d', d = d' + 1 := ⟨d - 1, by omega⟩
  refine v_J4_init_da8c8 hG ?_
  unfold w_J4_init_da8c8
  have e16 : (16 : Int32).toNatClampNeg = 16 := by decide
  have n : x ≠ h.1 := by omega
  have e1 : (mv_new h 16 (.inl (mv_t G 0, 16, .inl (fun _ => 0)))).2.2 x = some (.inr (1, [v0, .int 0, .int 0, .int 0])) := by rw [nw_n n]; exact hx
  have s1 : mv_rq l G mJ5_init_d00df (d + 1) 0 (mv_in [.ref x, .int 16] 2) [] h (fun o h1 => o = .inl none ∧ mv_sb G h1 x (x + 1) 16 [] ∧ gwn h h1 x 1 16) := by
    refine v_J5_init_d00df hG ?_
    unfold w_J5_init_d00df
    rw [e16]
    refine ⟨by decide, by decide, vnw_of (vpu_of e1 hb (show 0 < 4 by omega) rfl (vpu_of hs_s hb (show 1 < 4 by omega) rfl ⟨rfl, ?_, ?_⟩))⟩
    · rw [mv_set_set]
      refine ⟨fun _ => 0, 0, ?_, ?_, fun j hj => absurd hj (Nat.not_lt_zero _), fun j => ?_, fun j _ => ⟨0, by omega, rfl⟩, Nat.zero_le _, by omega, hb, by omega⟩
      · rw [hs_s, hh]
        rfl
      · rw [hs_n (by omega), ← hh]
        exact nw_s
      · rw [show lk [] j = 0 from rfl]
        omega
    · rw [mv_set_set]
      exact (gwn.newa hw).tr (gwn.set (mv_wf_new hw) e1 (by decide)) (Or.inl rfl)
  exact s1.mono fun o h1 q => Or.inl ⟨q.1, rfl, q.2⟩
end KO
