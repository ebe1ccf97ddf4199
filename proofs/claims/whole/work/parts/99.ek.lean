/-! the law from its entry -/
theorem gw_chg0 {G : mv_G} {h h1 : mv_H} {y k s : Nat} (g : gwn h h1 y k s) (hw : mv_wf h) (hb : G.2.2.1 ≤ h.1) (hy : h.1 ≤ y) : chg G h h1 (fun _ => False) := by
  refine ⟨⟨g.1, by have := g.2.1; omega, by have := g.2.1; omega⟩, fun a ha _ => g.2.2.2.1 a ha (by omega), fun s t z => ?_, fun a q x z => Or.inl (g.2.2.2.2 a _ z)⟩
  obtain ⟨q, u, w, f, a1, a2, a3⟩ := z
  exact ⟨q, u, w, f, g.at hw a1 (by have := mv_wf_lt hw a1; omega), g.at hw a2 (by have := mv_wf_lt hw a2; omega), a3⟩
theorem md_J0 {G : mv_G} {h : mv_H} : md_J G (h.1, h.2.1 + 88, h.2.2) h.1 0 md_00 = mv_new h 88 (.inr (15, md_fJ h.1 0 md_00)) := by
  refine Prod.ext rfl (Prod.ext rfl (funext fun b => ?_))
  by_cases c : b = h.1
  · subst c
    rw [md_J_obj]
    exact (nw_s).symm
  · have e : (mv_new h 88 (.inr (15, md_fJ h.1 0 md_00))).2.2 b = h.2.2 b := nw_n c
    rw [e]
    simp [md_J, c]
theorem md_fJ0 (m : Nat) : md_fJ m 0 md_00 = [.int 0, .null, .int 0, .int 0, .null, .int 0, .int 0, .int 0, .int 0, .int 0, .int 0, .null, .null, .null, .null, .null, .null, .null, .null, .null, .null, .int 0, .int 0, .int 0, .int 0, .int 0, .int 0, .int 0, .int 0, .int 0, .int 0, .int 0, .null, .null, .null, .null, .null, .null, .null, .null, .null, .null, .null, .null, .null, .null, .null, .null, .null, .null, .null, .null, .null, .null, .null, .int 0, .null, .null, .null, .int 0, .int 0, .int 0, .null, .null, .null, .null, .null, .null, .null, .null, .null, .null, .null, .null, .null, .null, .int 0, .null, .null, .null, .null, .null, .int 0, .null, .int 0, .null, .int 0, .int 0] := by
  have e : ∀ k, md_fv m 0 md_00 k = if md_k k = none then .int 0 else .null := fun k => by
    unfold md_fv
    by_cases c : md_k k = none
    · rw [if_pos c, if_pos c]
      rfl
    · rw [if_neg c, if_neg c, if_neg]
      unfold md_ad
      omega
  unfold md_fJ
  rw [funext e]
  decide +kernel
theorem md_sz59 : md_sz 59 ≤ 100000 := by decide +kernel
section LA
variable {l : Launch} {G : mv_G} {D b L : Nat} {xs : Nat → Int32} {h : mv_H}
theorem sp_law (hG : mv_ok G) (hX : mv_okX l G) (hT : mv_t G 0 ≠ mv_t G 1) (hN : ∀ U : State, G.2.2.2.2 U → va_Nc xUO xIS U) (hL : L ≤ 1536) (hE : lE G h) (hw : mv_wf h) (hh : h.1 = G.2.2.1) (hz : h.2.1 = 0) (hs : ∀ (a q : Nat) (y : List Value), h.2.2 a = some (.inr (0, .ref q :: y)) → q < h.1) (hb : b < h.1) (hx : h.2.2 b = some (.inl (mv_t G 1, L, .inl xs))) : mv_rq l G mL_law (D + 101) 0 (mv_in [.ref b] 7) [] h (fun o h1 => o = .inl (some (.int 1)) ∧ h1.1 ≤ h.1 + 601024 ∧ h1.2.1 ≤ 7293034) := by
  refine v_L_law hG ?_
  unfold w_L_law
  refine vnw_of ?_
  have g0 : gwn h (mv_new h 10 (.inr (14, [.null, .null, .null, .null, .null, .null, .null, .null, .null, .int 0]))) h.1 1 10 := gwn.new hw (by decide)
  have n0 : (mv_new h 10 (.inr (14, [.null, .null, .null, .null, .null, .null, .null, .null, .null, .int 0]))).2.2 h.1 = some (.inr (14, [.null, .null, .null, .null, .null, .null, .null, .null, .null, .int 0])) := nw_s
  have e0 : (mv_new h 10 (.inr (14, [.null, .null, .null, .null, .null, .null, .null, .null, .null, .int 0]))).1 = h.1 + 1 := rfl
  generalize mv_new h 10 (.inr (14, [.null, .null, .null, .null, .null, .null, .null, .null, .null, .int 0])) = h0 at g0 n0 e0 ⊢
  generalize ex : h.1 = x at g0 n0 e0 hs hb hh ⊢
  have c0 := gw_chg0 (G := G) g0 hw (by omega) (by omega)
  refine (sp_i12 (d := D + 99) hG (hE.c c0 hw (fun _ _ z => z)) g0.1 n0 (fun a q y z => hs a q y (g0.2.2.2.2 a _ z)) (by omega) e0 (by omega)).mono fun o h4 q => Or.inl ⟨q.1, ?_⟩
  obtain ⟨_, T4, g4⟩ := q
  have e4 : h4.1 = x + 199 := by have := g4.2.1; omega
  have s4 := g4.2.2.1
  have s0 := g0.2.2.1
  refine vnw_of ?_
  rw [← md_fJ0 h4.1, ← md_J0, e4]
  refine vU_of (sp_X13_init (d := D + 99) hG (by omega)) ?_
  show vnw (md_H G (x + 199 + 60, h4.2.1 + 88 + md_sz 59, h4.2.2) (x + 199) (md_p md_00 3 (-1))) 1 _ _
  refine vnw_of ?_
  generalize eB : ((x + 199 + 60, h4.2.1 + 88 + md_sz 59, h4.2.2) : mv_H) = B
  have b1 : B.1 = x + 259 := by rw [← eB]
  have b2 : B.2.1 = h4.2.1 + 88 + md_sz 59 := by rw [← eB]
  have b3 : B.2.2 = h4.2.2 := by rw [← eB]
  have eH : (md_H G B (x + 199) (md_p md_00 3 (-1))).1 = x + 259 := b1
  have eS : (md_H G B (x + 199) (md_p md_00 3 (-1))).2.1 = h4.2.1 + 88 + md_sz 59 := b2
  have hsz := md_sz59
  have o5 : ∀ a, a < x + 199 ∨ x + 259 ≤ a → (md_H G B (x + 199) (md_p md_00 3 (-1))).2.2 a = h4.2.2 a := fun a ha => by
    rw [md_out (by omega), b3]
  have M5 : MD G (md_H G B (x + 199) (md_p md_00 3 (-1))) (x + 199) (md_p md_00 3 (-1)) := MD.i
  have t5 : ∀ (a : Nat) (fs : List Value), x + 199 ≤ a → a < x + 259 → (md_H G B (x + 199) (md_p md_00 3 (-1))).2.2 a ≠ some (.inr (0, fs)) := fun a fs z1 z2 => md_nst z1 (by omega)
  rw [eH]
  generalize md_H G B (x + 199) (md_p md_00 3 (-1)) = h5 at eH eS o5 M5 t5 ⊢
  have w5 : mv_wf h5 := fun a ha => by
    rw [o5 a (by omega)]
    exact g4.1 a (by omega)
  have n6 : (mv_new h5 1 (.inl (mv_t G 3, 1, .inr (.inl (fun _ => 0))))).2.2 (x + 259) = some (.inl (mv_t G 3, 1, .inr (.inl (fun _ => 0)))) := by rw [← eH]; exact nw_s
  have e6 : (mv_new h5 1 (.inl (mv_t G 3, 1, .inr (.inl (fun _ => 0))))).1 = x + 260 := by show h5.1 + 1 = _; omega
  have s6 : (mv_new h5 1 (.inl (mv_t G 3, 1, .inr (.inl (fun _ => 0))))).2.1 = h5.2.1 + 1 := rfl
  have o6 : ∀ a, a ≠ x + 259 → (mv_new h5 1 (.inl (mv_t G 3, 1, .inr (.inl (fun _ => 0))))).2.2 a = h5.2.2 a := fun a ha => nw_n (by omega)
  have w6 : mv_wf (mv_new h5 1 (.inl (mv_t G 3, 1, .inr (.inl (fun _ => 0))))) := mv_wf_new w5
  generalize mv_new h5 1 (.inl (mv_t G 3, 1, .inr (.inl (fun _ => 0)))) = h6 at n6 e6 s6 o6 w6 ⊢
  have hb6 : h6.2.2 b = some (.inl (mv_t G 1, L, .inl xs)) := by
    rw [o6 b (by omega), o5 b (by omega), g4.2.2.2.1 b (by omega) (by omega), g0.2.2.2.1 b (by omega) (by omega)]
    exact hx
  have T6 : TP G h6 x (x + 260) A0 (x + 1628) (h6.2.1 + 2736) := by
    refine T4.gr (fun a q y z => hs a q y (g0.2.2.2.2 a _ (g4.2.2.2.2 a _ z))) (by omega) w6 (by omega) (by omega) e4 (fun a ha => by rw [o6 a (by omega), o5 a (by omega)]) (fun a fs z1 => ?_) (by omega) (by omega)
    rcases Nat.lt_or_ge a (x + 259) with c | c
    · rw [o6 a (by omega)]
      exact t5 a fs z1 c
    · by_cases c2 : a = x + 259
      · subst c2
        rw [n6]
        exact fun z => by cases z
      · rw [w6 a (by omega)]
        exact fun z => by cases z
  refine law_loop (Mc := x + 601024) (Ms := 7293034) (D := D) hG hX hT hN hL 512 0 h6 A0 (md_p md_00 3 (-1)) (fun _ => 0) (x + 1628) (h6.2.1 + 2736) (by omega) (by omega) ⟨T6, M5.o fun a z1 z2 => o6 a (by omega), n6, hb, hb6⟩ rW_0 aOk_0 (by omega) (by omega)
end LA
