/-! paths of nodes -/
theorem dcD.m {G : mv_G} {h h1 : mv_H} {D : dS} {V : Nat → vF} {I : Nat → Nat → Int32} (hd : dcD G h D V I) (k : ∀ s t, mv_str G h s t → mv_str G h1 s t) : dcD G h1 D V I := fun i hi => by
  obtain ⟨a, b, c, d, e⟩ := hd i hi
  exact ⟨a, b, k _ _ c, k _ _ d, e⟩
/-- a document on the heap -/
def DH (G : mv_G) (h : mv_H) (A : Nat) (t : List Nat) (D : dS) : Prop := ∃ s V I, hdc G h A s (nI D.1) V I ∧ dcD G h D V I ∧ mv_str G h s t
theorem DH.m {G : mv_G} {h h1 : mv_H} {A : Nat} {t : List Nat} {D : dS} (H : DH G h A t D) (k : ∀ a, A ≤ a → a < A + 83 → h1.2.2 a = h.2.2 a) (m : ∀ s t, mv_str G h s t → mv_str G h1 s t) : DH G h1 A t D := by
  obtain ⟨s, V, I, a, b, c⟩ := H
  exact ⟨s, V, I, a.fr k, b.m m, m _ _ c⟩
theorem hdc.top {G : mv_G} {h : mv_H} {A src : Nat} {cnt : Int32} {V : Nat → vF} {I : Nat → Nat → Int32} (hd : hdc G h A src cnt V I) (hw : mv_wf h) : A + 83 ≤ h.1 := by
  have := mv_wf_lt hw (hd.2.2.2.2.1 39 (by omega)).1
  omega
/-- texts of the code that paths are made of -/
def ptE (G : mv_G) (h : mv_H) : Prop := (∃ z, mv_lt G RX1 85 "['" z ∧ mv_str G h z [91, 39]) ∧ (∃ z, mv_lt G RX1 90 "']" z ∧ mv_str G h z [39, 93]) ∧ dgE G h
/-- a builder beside a document -/
def PtS (G : mv_G) (h : mv_H) (A : Nat) (t : List Nat) (D : dS) (b v cap : Nat) (q : List Nat) : Prop := DH G h A t D ∧ ptE G h ∧ mv_sb G h b v cap q ∧ cap ≤ 700 ∧ nsv h v ∧ mv_wf h ∧ G.2.2.1 ≤ h.1 ∧ ((b < A ∨ A + 83 ≤ b) ∧ (v < A ∨ A + 83 ≤ v)) ∧ A + 83 ≤ h.1
theorem mv_sb.lt {G : mv_G} {h : mv_H} {b v cap : Nat} {t : List Nat} (hS : mv_sb G h b v cap t) (hw : mv_wf h) : b < h.1 ∧ v < h.1 := by
  obtain ⟨f, mb, s1, s2, _⟩ := hS
  exact ⟨mv_wf_lt hw s1, mv_wf_lt hw s2⟩
theorem PtS.st {G : mv_G} {h h1 : mv_H} {A : Nat} {t : List Nat} {D : dS} {b v cap v' cap' k : Nat} {q q' : List Nat} (H : PtS G h A t D b v cap q) (F : sbF G h h1 b v v' k) (hS : mv_sb G h1 b v' cap' q') (hc : cap' ≤ 700) : PtS G h1 A t D b v' cap' q' := by
  obtain ⟨a1, ⟨⟨z, b1, b2⟩, ⟨z', b3, b4⟩, b5⟩, a3, a4, a5, a6, a7, a8, a9⟩ := H
  have m : ∀ s t, mv_str G h s t → mv_str G h1 s t := fun s t hs => F.str a5 a3 hs
  have hv : G.2.2.1 ≤ v := by obtain ⟨f, mb, s1, s2, s3, s4, s5, s6, s7, s8, s9⟩ := a3; exact s9
  refine ⟨a1.m (fun a x y => ?_) m, ⟨⟨z, b1, m _ _ b2⟩, ⟨z', b3, m _ _ b4⟩, b5.kV F.2.1 hv⟩, hS, hc, F.ns a5, F.1.1, F.1.2.1, ⟨a8.1, ?_⟩, Nat.le_trans a9 F.2.1.2.1⟩
  · refine F.1.2.2.2.2.2.2 a (by omega) ?_
    rintro (w | w) <;> omega
  · rcases F.2.2 with w | w <;> omega
theorem PtS.sb {G : mv_G} {h : mv_H} {A : Nat} {t : List Nat} {D : dS} {b v cap : Nat} {q : List Nat} (H : PtS G h A t D b v cap q) : ∃ fs, h.2.2 b = some (.inr (1, fs)) := by
  obtain ⟨f, mb, s1, _⟩ := H.2.2.1
  exact ⟨_, s1⟩
section SH
variable {l : Launch} {G : mv_G} {d A b v cap : Nat} {h : mv_H} {t q : List Nat} {D : dS}
theorem ps_C {c : Nat} (hG : mv_ok G) (hX : mv_okX l G) (H : PtS G h A t D b v cap q) (hn : q.length < 300) (hc : c < 128) (hd : 9 ≤ d) : mv_rq l G mJ4_append_cf468 (d + 1) 0 (mv_in [.ref b, .int (nI c)] 2) [] h (fun o h1 => o = .inl (some (.ref b)) ∧ ∃ v' cap', PtS G h1 A t D b v' cap' (q ++ [c]) ∧ sbG G h h1 b v v' cap cap') :=
  (sp_sbC hG hX H.2.2.1 H.2.2.2.1 hn hc H.2.2.2.2.2.1 H.2.2.2.2.2.2.1 hd).mono fun o h1 hq => by
    obtain ⟨ho, v', cap', a, b, c⟩ := hq
    exact ⟨ho, v', cap', H.st c.1 a b, c⟩
theorem ps_S {s : Nat} {u : List Nat} (hG : mv_ok G) (hX : mv_okX l G) (H : PtS G h A t D b v cap q) (hs : mv_str G h s u) (hn : q.length + u.length ≤ 300) (hd : 9 ≤ d) : mv_rq l G mJ4_append_15ec4 (d + 1) 0 (mv_in [.ref b, .ref s] 2) [] h (fun o h1 => o = .inl (some (.ref b)) ∧ ∃ v' cap', PtS G h1 A t D b v' cap' (q ++ u) ∧ sbG G h h1 b v v' cap cap') :=
  (sp_sbS hG hX H.2.2.1 H.2.2.2.1 hs H.2.2.2.2.1 hn H.2.2.2.2.2.1 H.2.2.2.2.2.2.1 hd).mono fun o h1 hq => by
    obtain ⟨ho, v', cap', a, b, c⟩ := hq
    exact ⟨ho, v', cap', H.st c.1 a b, c⟩
theorem ps_I {n : Nat} (hG : mv_ok G) (hX : mv_okX l G) (H : PtS G h A t D b v cap q) (h9 : n < 100) (hn : q.length + 2 ≤ 300) (hd : 9 ≤ d) : mv_rq l G mJ4_append_bf812 (d + 1) 0 (mv_in [.ref b, .int (nI n)] 2) [] h (fun o h1 => o = .inl (some (.ref b)) ∧ ∃ v' cap', PtS G h1 A t D b v' cap' (q ++ dgt n) ∧ sbG G h h1 b v v' cap cap') :=
  (sp_sbI hG hX H.2.2.1 H.2.2.2.1 H.2.1.2.2 h9 hn H.2.2.2.2.2.1 H.2.2.2.2.2.2.1 hd).mono fun o h1 hq => by
    obtain ⟨ho, v', cap', a, b, c⟩ := hq
    exact ⟨ho, v', cap', H.st c.1 a b, c⟩
/-- the cells of a value -/
theorem DH.vl {k : Nat} (H : DH G h A t D) (hk : k < D.1) (h40 : D.1 ≤ 40) : ∃ w : vF, h.2.2 (A + 43 + k) = some (vE w) ∧ w.1 = nkd (D.2 k) ∧ w.2.1 = nsz (D.2 k) ∧ mv_str G h w.2.2.1 (ntx (D.2 k)) ∧ mv_str G h w.2.2.2.2.1 (nnm (D.2 k)) ∧ w.2.2.2.2.2.1 = oI (nou (D.2 k)) ∧ w.2.2.2.2.2.2.1 = nI (npl (D.2 k)) ∧ w.2.2.2.2.2.2.2.2.1 = nI (nbe (D.2 k)) ∧ (∀ e a, nfi (D.2 k) = some (e, a) → w.2.2.2.2.2.2.2.2.2 = nI e ∧ w.2.2.2.2.2.2.2.1 = nI a) ∧ w.2.2.2.1 = nI k := by
  obtain ⟨s, V, I, a, b, c⟩ := H
  obtain ⟨x1, x2, x3, x4, x5, x6, x7, x8, x9⟩ := b k hk
  exact ⟨V k, (a.2.2.2.2.1 k (by omega)).1, x1, x2, x3, x4, x5, x6, x7, x8, (a.2.2.2.2.1 k (by omega)).2⟩
theorem DH.nd {n : Nat} {P : Nat → Prop} {x : Int32} (H : DH G h A t D) (hn : n < 40) (hx : x = nI n) (kk : P (A + 43 + n)) : vgb h A 3 0 fun y => vab G h y 4 x P := by
  obtain ⟨s, V, I, a, b, c⟩ := H
  exact vNd a hn hx kk
theorem sp_appendStep {k : Nat} {g : Nat → Nat} (hG : mv_ok G) (hX : mv_okX l G) (ht : tOk t) (hI : dI t g D) (hW : ∀ n, n < D.1 → nou (D.2 n) = none → n = 0) (H : PtS G h A t D b v cap q) (hk : k < D.1) (h0 : 0 < k) (hn : q.length ≤ 280) (hd : 10 ≤ d) : mv_rq l G mX1_appendStep (d + 1) 0 (mv_in [.ref A, .ref (A + 43 + k), .ref b] 3) [] h (fun o h1 => o = .inl none ∧ ∃ v' cap', PtS G h1 A t D b v' cap' (q ++ stT D k) ∧ sbG G h h1 b v v' cap cap') := by
  obtain ⟨d, rfl⟩ : ∃ d', d = d' + 1 := ⟨d - 1, by omega⟩
  have h40 := hI.1.1
  obtain ⟨hnl, _⟩ := hI.nmlk ht hk
  obtain ⟨o, ho⟩ : ∃ o, nou (D.2 k) = some o := by
    cases e : nou (D.2 k) with
    | none => exact absurd (hW k hk e) (by omega)
    | some o => exact ⟨o, rfl⟩
  have hok := (hI.2.1 k hk o ho).1
  obtain ⟨w, w0, w1, w2, w3, w4, w5, w6, w7, w8, w9⟩ := H.1.vl hk h40
  obtain ⟨u, u0, u1, _⟩ := H.1.vl (k := o) (by omega) h40
  have hpl : npl (D.2 k) < 40 := by
    rw [hI.2.2.2.2.1 k o hk ho]
    have : (kF D o k).length ≤ k := by
      unfold kF
      exact Nat.le_trans (List.length_filter_le _ _) (by rw [List.length_range]; exact Nat.le_refl _)
    omega
  obtain ⟨⟨z1, y1, y2⟩, ⟨z2, y3, y4⟩, _⟩ := id H.2.1
  obtain ⟨fs, hb1⟩ := H.sb
  refine v_X1_appendStep hG ?_
  unfold w_X1_appendStep
  have e5 : w.2.2.2.2.2.1 = nI o := by rw [w5, ho]; rfl
  obtain ⟨s0, V0, I0, ⟨hA, ⟨f, f1, f2⟩, _⟩, _⟩ := id H.1
  exact vgb_of hA rfl (vgi_of w0 rfl (vab_of f1 e5 (show o < 40 by omega) (by omega) (f2 o (by omega)) (vgi_of u0 rfl (vif_of (fun c => vst_of y1 (vob_of hb1 ((ps_S (d := d) hG hX H y2 (by simp; omega) (by omega)).mono fun o1 h1 hq => by
      obtain ⟨rfl, v1, cap1, H1, F1⟩ := hq
      refine Or.inl ⟨b, rfl, ?_⟩
      obtain ⟨w', w0', _, _, _, w4', _⟩ := H1.1.vl hk h40
      obtain ⟨fs1, hb2⟩ := H1.sb
      obtain ⟨_, ⟨z3, y5, y6⟩, _⟩ := id H1.2.1
      refine vgb_of w0' rfl (vob_of hb2 ((ps_S (d := d) hG hX H1 w4' (by simp; omega) (by omega)).mono fun o2 h2 hq => ?_))
      obtain ⟨rfl, v2, cap2, H2, F2⟩ := hq
      refine Or.inl ⟨b, rfl, ?_⟩
      obtain ⟨fs2, hb3⟩ := H2.sb
      obtain ⟨_, ⟨z4, y7, y8⟩, _⟩ := id H2.2.1
      refine vst_of y7 (vob_of hb3 ((ps_S (d := d) hG hX H2 y8 (by simp; omega) (by omega)).mono fun o3 h3 hq => ?_))
      obtain ⟨rfl, v3, cap3, H3, F3⟩ := hq
      refine Or.inl ⟨b, rfl, rfl, v3, cap3, ?_, (F1.tr H.2.2.2.2.2.1 F2).tr H.2.2.2.2.2.1 F3⟩
      rw [u1] at c
      unfold stT
      rw [ho, if_pos (show nkd (D.2 ((some o).getD 0)) = 6 from c)]
      simpa using H3))) (fun c => vob_of hb1 ((ps_C (d := d) (c := 91) hG hX H (by omega) (by omega) (by omega)).mono fun o1 h1 hq => by
      obtain ⟨rfl, v1, cap1, H1, F1⟩ := hq
      refine Or.inl ⟨b, rfl, ?_⟩
      obtain ⟨w', w0', _, _, _, _, _, w6', _⟩ := H1.1.vl hk h40
      obtain ⟨fs1, hb2⟩ := H1.sb
      refine vgi_of w0' rfl (vob_of hb2 ?_)
      rw [w6']
      refine (ps_I (d := d) hG hX H1 (by omega) (by simp; omega) (by omega)).mono fun o2 h2 hq => ?_
      obtain ⟨rfl, v2, cap2, H2, F2⟩ := hq
      refine Or.inl ⟨b, rfl, ?_⟩
      obtain ⟨fs2, hb3⟩ := H2.sb
      have := @dgt_len (npl (D.2 k))
      refine vob_of hb3 ((ps_C (d := d) (c := 93) hG hX H2 (by simp; omega) (by omega) (by omega)).mono fun o3 h3 hq => ?_)
      obtain ⟨rfl, v3, cap3, H3, F3⟩ := hq
      refine Or.inl ⟨b, rfl, rfl, v3, cap3, ?_, (F1.tr H.2.2.2.2.2.1 F2).tr H.2.2.2.2.2.1 F3⟩
      rw [u1] at c
      unfold stT
      rw [ho, if_neg (show ¬ nkd (D.2 ((some o).getD 0)) = 6 from c)]
      simpa using H3))))))
end SH
