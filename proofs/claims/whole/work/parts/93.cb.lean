/-! a text is read into a document -/
/-- the change that readInto makes -/
def ist (G : mv_G) (h h1 : mv_H) (A c r k : Nat) : Prop := hst G h h1 (fun a => inD A a ∨ a = c ∨ a = r) k (10 * k) ∧ ksT G h h1
theorem ist.tr {G : mv_G} {h h1 h2 : mv_H} {A c r k k1 k2 : Nat} (a : ist G h h1 A c r k1) (b : ist G h1 h2 A c r k2) (hk : k1 + k2 ≤ k) : ist G h h2 A c r k := ⟨a.1.tr b.1 (fun _ _ z => z) (fun _ _ z => z) hk (by omega), a.2.tr b.2⟩
theorem ist.of {G : mv_G} {h h1 : mv_H} {A c r k : Nat} (a : rst G h h1 A c k) : ist G h h1 A c r k := ⟨a.1.mn (fun b _ z => by rcases z with z | z; exact Or.inl z; exact Or.inr (Or.inl z)) (Nat.le_refl _) (Nat.le_refl _), a.2⟩
def PI (G : mv_G) (h : mv_H) (r c A s : Nat) (t : List Nat) (o : mv_O) (h1 : mv_H) : Prop := match pD t with
  | .inl D => o = .inl (some (.int (-1))) ∧ RS G h1 r c A s t t.length D ∧ ist G h h1 A c r 161
  | .inr w => o = .inl (some (.int (nI w))) ∧ h1.2.2 r = some (.inr (4, [.ref c, .ref A])) ∧ (∃ p, h1.2.2 c = some (.inr (2, [.ref s, .int p, .int (nI w)]))) ∧ (∃ cnt V I, hdc G h1 A s cnt V I) ∧ ist G h h1 A c r 162
theorem sp_readInto {l : Launch} {G : mv_G} {d r c A s s0 src0 : Nat} {h : mv_H} {t : List Nat} {v0 : Value} {p0 ill0 cnt0 : Int32} {V0 : Nat → vF} {I0 : Nat → Nat → Int32} (hG : mv_ok G) (hX : mv_okX l G) (hT : mv_t G 0 ≠ mv_t G 1) (ht : tOk t) (hr : h.2.2 r = some (.inr (4, [.ref c, v0]))) (hc : h.2.2 c = some (.inr (2, [.ref s0, .int p0, .int ill0]))) (hdc0 : hdc G h A src0 cnt0 V0 I0) (hs : mv_str G h s t) (he : envL G h) (hsep : (r < A ∨ A + 83 ≤ r) ∧ (c < A ∨ A + 83 ≤ c) ∧ r ≠ c ∧ G.2.2.1 ≤ c ∧ G.2.2.1 ≤ r) (hd : 25 ≤ d) :
    mv_rq l G mX2_readInto (d + 1) 0 (mv_in [.ref r, .ref A, .ref s] 4) [] h (PI G h r c A s t) := by
  obtain ⟨hw, hb⟩ := he.1.2
  refine v_X2_readInto hG ?_
  unfold w_X2_readInto
  refine vpu_of hr hsep.2.2.2.2 (show 1 < 2 by omega) rfl ?_
  have i1 : ist G h (mv_set h r (.inr (4, [.ref c, .ref A]))) A c r 0 := ⟨hst.set hw hb hr (Or.inr (Or.inr rfl)), ksT.set hr (nTx_o (by decide))⟩
  have r1 : (mv_set h r (.inr (4, [.ref c, .ref A]))).2.2 r = some (.inr (4, [.ref c, .ref A])) := hs_s
  have d1 : hdc G (mv_set h r (.inr (4, [.ref c, .ref A]))) A src0 cnt0 V0 I0 := hdc0.els hsep.1
  have c1 : (mv_set h r (.inr (4, [.ref c, .ref A]))).2.2 c = some (.inr (2, [.ref s0, .int p0, .int ill0])) := by rw [hs_n (fun z => hsep.2.2.1 z.symm)]; exact hc
  rw [show [Value.ref c, v0].set 1 (.ref A) = [.ref c, .ref A] from rfl]
  generalize mv_set h r (.inr (4, [.ref c, .ref A])) = h1 at i1 r1 d1 c1
  refine vgb_of r1 rfl (vob_of d1.1 (vU_of (sp_restartD (s := s) hG d1) ?_))
  have i2 : ist G h1 (mv_set h1 A (.inr (3, [.ref (A + 1), .ref (A + 2), .ref s, .int (nI 0)]))) A c r 0 := ⟨hst.set i1.1.1 i1.1.2.1 d1.1 (Or.inl ⟨by omega, by omega⟩), ksT.set d1.1 (nTx_o (by decide))⟩
  have d2 := d1.hdr (src' := s) (cnt' := nI 0)
  have r2 : (mv_set h1 A (.inr (3, [.ref (A + 1), .ref (A + 2), .ref s, .int (nI 0)]))).2.2 r = some (.inr (4, [.ref c, .ref A])) := by rw [hs_n (by have := hsep.1; omega)]; exact r1
  have c2 : (mv_set h1 A (.inr (3, [.ref (A + 1), .ref (A + 2), .ref s, .int (nI 0)]))).2.2 c = some (.inr (2, [.ref s0, .int p0, .int ill0])) := by rw [hs_n (by have := hsep.2.1; omega)]; exact c1
  generalize mv_set h1 A (.inr (3, [.ref (A + 1), .ref (A + 2), .ref s, .int (nI 0)])) = h2 at i2 d2 r2 c2
  refine vgb_of r2 rfl (vob_of c2 (vU_of (sp_restart (s := s) hG c2 hsep.2.2.2.1 (by omega)) ?_))
  have i3 : ist G h2 (mv_set h2 c (curE s 0 (-1))) A c r 0 := ⟨hst.set i2.1.1 i2.1.2.1 c2 (Or.inr (Or.inl rfl)), ksT.set c2 (nTx_o (by decide))⟩
  have i03 : ist G h (mv_set h2 c (curE s 0 (-1))) A c r 0 := (i1.tr i2 (k := 0) (by omega)).tr i3 (by omega)
  have H : RS G (mv_set h2 c (curE s 0 (-1))) r c A s t 0 (0, fun _ => nR0) := ⟨by rw [hs_n hsep.2.2.1]; exact r2, hs_s, ⟨V0, I0, d2.els hsep.2.1, fun i hi => absurd hi (Nat.not_lt_zero _)⟩, i03.2.s hs, he.k i03.2 i03.1.1 i03.1.2.1, ⟨hsep.1, hsep.2.1, hsep.2.2.1, hsep.2.2.2.1⟩, Nat.zero_le _, Nat.zero_le _⟩
  generalize mv_set h2 c (curE s 0 (-1)) = h3 at i3 i03 H
  obtain ⟨z, z1, z2⟩ := H.2.2.2.2.1.2.2.2
  have hI0 : dI t (fun _ => 0) (0, fun _ => nR0) := ⟨⟨Nat.zero_le _, fun k hk => absurd hk (Nat.not_lt_zero _)⟩, fun k hk => absurd hk (Nat.not_lt_zero _), fun k hk => absurd hk (Nat.not_lt_zero _), fun k hk => absurd hk (Nat.not_lt_zero _), fun k o hk => absurd hk (Nat.not_lt_zero _), fun k e a hk => absurd hk (Nat.not_lt_zero _), fun j k n hk => absurd hk (Nat.not_lt_zero _), fun k hk => absurd hk (Nat.not_lt_zero _), fun k hk => absurd hk (Nat.not_lt_zero _)⟩
  have hou : ouOk t (fun _ => 0) (0, fun _ => nR0) 6 none [] := ⟨fun o z => (nomatch z), fun _ => rfl, Or.inl rfl⟩
  -- an ill text
  have bad : ∀ (w pc E : Nat) (h4 : mv_H) (k : Nat), 21 ≤ pc → pc < 36 → pD t = .inr w → IL G h3 h4 r c A s w k → k ≤ 162 → mv_xq l G mX2_readInto (d + 1) pc [some (.ref r), some (.ref A), some (.ref s), none] (xIA, E) h4 (PI G h r c A s t) := fun w pc E h4 k p1 p2 hp il hk => by
    obtain ⟨j1, ⟨p, j2⟩, j3, j4⟩ := il
    refine xc_X2_readInto ⟨p1, p2⟩ (vgb_of j1 rfl (vgi_of j2 rfl ?_))
    unfold PI
    rw [hp]
    exact ⟨rfl, j1, ⟨p, j2⟩, j3, i03.tr (ist.of j4) (by omega)⟩
  refine vst_of z1 (vob_of H.1 ?_)
  refine (VCl hG hX hT ht 6 (Nat.le_refl _) d (fun _ => 0) (0, fun _ => nR0) 0 none [] z h3 (by omega) H hI0 hou z2).mono fun o h4 hq => ?_
  cases hpv : pV t 6 (0, fun _ => nR0) 0 none [] with
  | inr w =>
    rw [hpv] at hq
    obtain ⟨E, e1, e2⟩ := hq
    refine Or.inr ⟨_, e1, bad w 26 E h4 _ (by omega) (by omega) (by unfold pD; rw [hpv]) e2 (by show 4 * (40 - 0) + 1 ≤ _; omega)⟩
  | inl q =>
    obtain ⟨D, p⟩ := q
    rw [hpv] at hq
    obtain ⟨e1, H4, R4⟩ := hq
    have h40 := H4.2.2.2.2.2.2.2
    refine Or.inl ⟨e1, vgb_of H4.1 rfl (vob_of H4.2.1 ?_)⟩
    refine (sp_expectEnd hG hX H4.2.1 H4.2.2.2.1 H4.2.2.2.2.2.2.1 hsep.2.2.2.1 (by omega)).mono fun o h5 hq5 => ?_
    rcases hq5 with ⟨x1, x2, x3⟩ | ⟨x1, x2, x3⟩
    · refine Or.inl ⟨x2, ?_⟩
      rw [← x3]
      unfold PI pD
      rw [hpv]
      simp only [if_neg (show ¬ p < t.length by omega)]
      rw [x1] at H4
      exact ⟨trivial, H4, i03.tr (ist.of R4) (by show 0 + (4 * (D.1 - 0) - 2) ≤ _; omega)⟩
    · refine Or.inr ⟨_, x2, ?_⟩
      rw [← x3]
      refine bad p 33 _ _ 161 (by omega) (by omega) (by unfold pD; rw [hpv]; simp only [if_pos x1]) (IL.pre R4 H4.ill (by show (4 * (D.1 - 0) - 2) + 1 ≤ _; omega)) (by omega)
