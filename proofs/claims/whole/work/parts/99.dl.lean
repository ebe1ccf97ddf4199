section FM
variable {l : Launch} {G : mv_G} {d f A e dd : Nat} {t : List Nat} {D : dS} {lo : Option HV} {g : Nat → Nat}
/-- whether a condition holds -/
theorem sp_holds {n a x y k : Nat} {nx : Option Nat} {c : dCnd} {h : mv_H} (hG : mv_ok G) (hX : mv_okX l G) (hT : mv_t G 0 ≠ mv_t G 1) (hW : dW t D) (hI : dI t g D) (hL : hLo G lo) (hO : LFo l G f A t D lo e dd) (hn : n < D.1) (he : e ≤ 4) (hd : dd + 8 ≤ d) (hd9 : 20 ≤ d) (hs : f + 22 ≤ x ∧ A + 83 ≤ x) (H : FS G h f A t D (nI k)) (hk : k ≤ 1000000) (P : kTst G lo h x y a (nx, c)) :
    mv_rq l G mX3_holds (d + 1) 0 (mv_in [.ref f, .ref a, .int (nI n), .int (nI e)] 6) [] h (EV G h f A t D e x y (fun h1 => kTst G lo h1 x y a (nx, c)) k (c D n) (fun b o h1 => o = .inl (some (.int (b2i b))))) := by
  have h40 := hI.1.1
  have hPF := kPth_fr (G := G) hL
  have hTF := kThg_fr (G := G) hL
  obtain ⟨d, rfl⟩ : ∃ d', d = d' + 1 := ⟨d - 1, by omega⟩
  refine v_X3_holds hG ?_
  unfold w_X3_holds
  refine vob_of H.1 (vU_of (sp_rbl (kk := 0) hG hX he (by omega)) ?_)
  rcases id P with ⟨L, z1, z2⟩ | ⟨a1, a2, kd, fr, la, pa, le, rel, ri, b1, b2⟩
  · obtain ⟨a1, a2, ds, fr, la, pa, le, rel, ri, b1, _⟩ := id z2
    rcases hO with z | ⟨L', z5, hLF, hNN, he4⟩
    · rw [z] at z1; cases z1
    · rw [z5] at z1
      cases z1
      refine vgi_of b1 rfl (vif_y rfl (vob_of H.1 ?_))
      rw [nI_1]
      refine (sp_any hG (hL L z5).1 hNN hLF hn (by omega) H hk hs z2).mono fun o h1 hq => ?_
      rcases hq with ⟨b, j, q1, q2, q3, q4, q5, q6⟩ | ⟨q1, ⟨q, q2⟩, h', kk', q3, q4, q5, q6⟩
      · exact Or.inl ⟨b2i b, q3, (nBb b).1, Or.inl ⟨b, j, q1, q2, rfl, q4, q5.mn (by omega) (Nat.le_refl _) (Nat.le_refl _), Or.inl ⟨L, z5, q6⟩⟩⟩
      · exact Or.inr ⟨_, q2, EV.fail q1 rfl q3 q4 (q5.mn (by omega) (Nat.le_refl _) (Nat.le_refl _)) (Or.inl ⟨L, z5, q6⟩)⟩
  · refine vgi_of b1 rfl ?_
    rcases b2 with ⟨kz, b, w, L, z1, z2, z3, z4⟩ | ⟨kz, b, p, z1, z2, z3⟩ | ⟨kz, c1, c2, d1, d2, r, z1, z2, z3, z4, z5, z6, z7⟩
    · rw [z1] at b1
      rcases hO with z | ⟨L', z5, hLF, hNN, he4⟩
      · rw [z] at z2; cases z2
      · rw [z5] at z2
        cases z2
        have z4' : c = notR w := z4
        rw [kz]
        refine vif_n (by decide) (vif_n (by decide) (vif_y rfl (vgr_of b1 rfl (vob_of H.1 ?_))))
        rw [nI_1]
        refine (hLF.1 n hn _ h k b (a + 1) y none w (by omega) H hk ⟨by omega, by omega⟩ z3).mono fun o h1 hq => ?_
        have conv : ∀ h1, FX G h h1 f (e + 1) (a + 1) y → L.1 h1 (a + 1) y b (none, w) → kTst G lo h1 x y a (nx, c) := fun h1 F1 Q1 => Or.inr ⟨a1, a2, kd, some b, la, pa, le, rel, ri, by rw [F1.2.1 a (by omega) (by omega) (by omega)]; exact b1, Or.inl ⟨kz, b, w, L, rfl, z5, Q1, z4⟩⟩
        have ev : c D n = eB (w D n) fun b => some (!b, 0) := by rw [z4']; rfl
        rw [ev]
        rcases hq with ⟨bv, j, q1, q2, q3, q4, q5, q6⟩ | ⟨q1, ⟨q, q2⟩, h', kk', q3, q4, q5, q6⟩
        · refine Or.inl ⟨b2i bv, q3, ?_⟩
          have R : ∀ o, o = .inl (some (.int (b2i (!bv)))) → EV G h f A t D e x y (fun h1 => kTst G lo h1 x y a (nx, c)) k (eB (w D n) fun b => some (!b, 0)) (fun b o h1 => o = .inl (some (.int (b2i b)))) o h1 := fun o ho => Or.inl ⟨!bv, j + 0, eB_j q1 rfl, q2, ho, q4, q5.mn (by omega) (by omega) (Nat.le_refl _), conv h1 q5 q6⟩
          cases bv with
          | false => exact vif_y rfl (R _ rfl)
          | true => exact vif_n (by decide) (R _ rfl)
        · exact Or.inr ⟨_, q2, EV.fail q1.b1 rfl q3 q4 (q5.mn (by omega) (by omega) (Nat.le_refl _)) (conv h' q5 q6)⟩
    · rw [z1] at b1
      have z3' : c = findR p.1 := z3
      rw [kz]
      refine vif_n (by decide) (vif_n (by decide) (vif_n (by decide) (vif_y rfl (vgb_of b1 rfl (vob_of H.1 ((sp_follow hG hX hT hW hI hL hO hn he (by omega) (by omega) hs H hk z2).mono fun o h1 hq => ?_))))))
      have conv : ∀ h1, FX G h h1 f e x a → kPth G lo h1 x a b p → kTst G lo h1 x y a (nx, c) := fun h1 F1 Q1 => Or.inr ⟨a1, a2, kd, fr, la, some b, le, rel, ri, by rw [F1.2.1 a (by omega) (by omega) (by omega)]; exact b1, Or.inr (Or.inl ⟨kz, b, p, rfl, Q1, z3⟩)⟩
      have ev : c D n = eB (p.1 D n) fun r => some (!r.isEmpty, 0) := by rw [z3']; rfl
      rw [ev]
      rcases hq with ⟨r, j, q1, q2, ⟨i, i1, i2, i3⟩, q4, q5, q6⟩ | ⟨q1, ⟨q, q2⟩, h', kk', q3, q4, q5, q6⟩
      · have rl := i3.1.2.2.1
        refine Or.inl ⟨_, i2, vgi_of i3.1.1 rfl (vif_of (fun cc => ?_) (fun cc => ?_))⟩
        · have : r.length = 0 := by
            have := (nI_leI (b := 0) (by omega) (by omega)).mp cc
            omega
          have er : r = [] := List.length_eq_zero_iff.mp this
          exact Or.inl ⟨false, j + 0, eB_j q1 (by rw [er]; rfl), q2, rfl, q4, q5.mn (Nat.le_refl _) (Nat.le_refl _) (by omega), conv h1 q5 q6⟩
        · have hlt : r ≠ [] := fun z => cc (by rw [z]; exact (nI_leI (b := 0) (by simp) (by omega)).mpr (by simp))
          exact Or.inl ⟨true, j + 0, eB_j q1 (by cases r with | nil => exact absurd rfl hlt | cons _ _ => rfl), q2, rfl, q4, q5.mn (Nat.le_refl _) (Nat.le_refl _) (by omega), conv h1 q5 q6⟩
      · exact Or.inr ⟨_, q2, EV.fail q1.b1 rfl q3 q4 (q5.mn (Nat.le_refl _) (Nat.le_refl _) (by omega)) (conv h' q5 q6)⟩
    · rw [z1, z2, z6] at b1
      have z7' : c = cmpR r d1 d2 := z7
      rw [kz]
      refine vif_n (by decide) (vif_n (by decide) (vif_n (by decide) (vif_n (by decide) (vgb_of b1 rfl (vob_of H.1 ((sp_valueOf hG hX hT hW hI hL hO hn he (by omega) (by omega) hs H hk z3).mono fun o h1 hq => ?_))))))
      have ev : c D n = eB (d1 D n) fun u => eB (d2 D n) fun v => some (cmpV D r u v, 0) := by rw [z7']; rfl
      rw [ev]
      have keep : ∀ h1 : mv_H, h1.2.2 a = some (cTst kd fr la nx pa (some c1) (nI r) (some c2)) → kThg G lo h1 x a c1 d1 → kThg G lo h1 (a + 1) y c2 d2 → kTst G lo h1 x y a (nx, c) := fun h1 k1 k2 k3 => Or.inr ⟨a1, a2, kd, fr, la, pa, some c1, nI r, some c2, k1, Or.inr (Or.inr ⟨kz, c1, c2, d1, d2, r, rfl, rfl, k2, k3, z5, rfl, z7⟩)⟩
      rcases hq with ⟨u, j, q1, q2, ⟨r1, r1o, r1v⟩, q4, q5, q6⟩ | ⟨q1, ⟨q, q2⟩, h', kk', q3, q4, q5, q6⟩
      · have b1' : h1.2.2 a = some (cTst kd fr la nx pa (some c1) (nI r) (some c2)) := by rw [q5.2.1 a (by omega) (by omega) (by omega)]; exact b1
        have z4' : kThg G lo h1 (a + 1) y c2 d2 := hTF.fx z4 q5 (by omega) (by omega)
        refine Or.inl ⟨r1, r1o, vgb_of b1' rfl (vob_of q4.1 ((sp_valueOf hG hX hT hW hI hL hO hn he (by omega) (by omega) ⟨by omega, by omega⟩ q4 q2 z4').mono fun o2 h2 hq2 => ?_))⟩
        have F1 : FX G h h1 f e x y := q5.mn (Nat.le_refl _) (Nat.le_refl _) (by omega)
        rcases hq2 with ⟨w, j2, p1, p2, ⟨r2, r2o, r2v⟩, p4, p5, p6⟩ | ⟨p1, ⟨q, p2⟩, h', kk', p3, p4, p5, p6⟩
        · have b1'' : h2.2.2 a = some (cTst kd fr la nx pa (some c1) (nI r) (some c2)) := by rw [p5.2.1 a (by omega) (by omega) (by omega)]; exact b1'
          have v1 : vOK G h2 A D x a u r1 := r1v.fx p5 (by omega) hs.1
          have t1 : kThg G lo h2 x a c1 d1 := hTF.fx q6 p5 (by omega) hs.1
          refine Or.inl ⟨r2, r2o, vgi_of b1'' rfl (vob_of p4.1 (vI_of (sp_compare hG p4 hI v1 r2v ⟨by omega, by omega, by omega⟩ z5 (by omega)) ⟨(nBb _).1, Or.inl ⟨cmpV D r u w, j + (j2 + 0), eB_j q1 (eB_j p1 rfl), by omega, rfl, ?_, F1.tr (p5.mn (Nat.le_refl _) (by omega) (Nat.le_refl _)), keep h2 b1'' t1 p6⟩⟩))⟩
          rw [show k + (j + (j2 + 0)) = k + j + j2 by omega]; exact p4
        · refine Or.inr ⟨_, p2, EV.fail (bad.b2 q1 p1.b1) rfl p3 p4 (F1.tr (p5.mn (Nat.le_refl _) (by omega) (Nat.le_refl _))) (keep h' ?_ (hTF.fx q6 p5 (by omega) hs.1) p6)⟩
          rw [p5.2.1 a (by omega) (by omega) (by omega)]; exact b1'
      · refine Or.inr ⟨_, q2, EV.fail q1.b1 rfl q3 q4 (q5.mn (Nat.le_refl _) (Nat.le_refl _) (by omega)) (keep h' ?_ q6 (hTF.fx z4 q5 (by omega) (by omega)))⟩
        rw [q5.2.1 a (by omega) (by omega) (by omega)]; exact b1
/-- every level is worked out -/
theorem sp_lf (hG : mv_ok G) (hX : mv_okX l G) (hT : mv_t G 0 ≠ mv_t G 1) (hW : dW t D) : ∀ n, n ≤ 4 → LF l G f A t D (kLv G n) (4 - n) (30 + 10 * n) := by
  obtain ⟨⟨g, hI⟩, _⟩ := id hW
  intro n
  induction n with
  | zero =>
    intro _
    have hL : hLo G none := fun L z => by cases z
    have hO : LFo l G f A t D none 4 20 := Or.inl rfl
    refine ⟨fun n hn d h k a x y nx c hd H hk hs P => ?_, fun n hn d h k a x y p hd H hk hs P => ?_, fun n hn d h k a x y v hd H hk hs P => ?_⟩
    all_goals obtain ⟨d, rfl⟩ : ∃ d', d = d' + 1 := ⟨d - 1, by omega⟩
    · exact sp_holds hG hX hT hW hI hL hO hn (by omega) (by omega) (by omega) hs H hk P
    · exact sp_follow hG hX hT hW hI hL hO hn (by omega) (by omega) (by omega) hs H hk P
    · exact sp_valueOf hG hX hT hW hI hL hO hn (by omega) (by omega) (by omega) hs H hk P
  | succ n ih =>
    intro hn4
    have hL : hLo G (some (kLv G n)) := fun L z => by cases z; exact kLv_fr n
    have hNN : hNx0 11 3 (kLv G n).1 := by cases n <;> exact kTst_nx
    have hO : LFo l G f A t D (some (kLv G n)) (4 - (n + 1)) (30 + 10 * n) := Or.inr ⟨_, rfl, by rw [show 4 - (n + 1) + 1 = 4 - n by omega]; exact ih (by omega), hNN, by omega⟩
    refine ⟨fun n hn d h k a x y nx c hd H hk hs P => ?_, fun n hn d h k a x y p hd H hk hs P => ?_, fun n hn d h k a x y v hd H hk hs P => ?_⟩
    all_goals obtain ⟨d, rfl⟩ : ∃ d', d = d' + 1 := ⟨d - 1, by omega⟩
    · exact sp_holds hG hX hT hW hI hL hO hn (by omega) (by omega) (by omega) hs H hk P
    · exact sp_follow hG hX hT hW hI hL hO hn (by omega) (by omega) (by omega) hs H hk P
    · exact sp_valueOf hG hX hT hW hI hL hO hn (by omega) (by omega) (by omega) hs H hk P
/-- a query is run over a document -/
theorem sp_run {a x y : Nat} {p : dPth × Bool × Nat} {h : mv_H} {A0 : Value} {kk : Int32} (hG : mv_ok G) (hX : mv_okX l G) (hT : mv_t G 0 ≠ mv_t G 1) (hW : dW t D) (hd : 72 ≤ d) (hs : f + 22 ≤ x ∧ A + 83 ≤ x) (hf : h.2.2 f = some (.inr (5, [.ref (f + 1), A0, .int kk]))) (hS : ∀ h1 : mv_H, h1 = mv_set h f (.inr (5, [.ref (f + 1), .ref A, .int 0])) → FS G h1 f A t D 0) (hb : G.2.2.1 ≤ f) (P : KP G h x y a p) :
    mv_rq l G mX3_run (d + 1) 0 (mv_in [.ref f, .ref A, .ref a] 3) [] h (EV G h f A t D 0 x y (fun h1 => KP G h1 x y a p) 0 (p.1 D 0) (VR G f D)) := by
  have h0 : 0 < D.1 := hW.2.1
  refine v_X3_run hG ?_
  unfold w_X3_run
  refine vpu_of hf hb (show 1 < 3 by decide) rfl (vpu_of hs_s hb (show 2 < 3 by decide) rfl ?_)
  rw [mv_set_set]
  have S1 := hS _ rfl
  have F1 : FX G h (mv_set h f (.inr (5, [.ref (f + 1), .ref A, .int 0]))) f 0 x y := ⟨⟨rfl, rfl⟩, fun q q1 _ _ => hs_n q1, ksT.set hf (nTx_o (by decide))⟩
  have P1 : KP G (mv_set h f (.inr (5, [.ref (f + 1), .ref A, .int 0]))) x y a p := KP_fr.1 _ _ _ _ _ _ P (fun q x1 x2 => hs_n (by omega)) (str_set hf (by decide))
  rw [show ([Value.ref (f + 1), A0, Value.int kk].set 1 (.ref A)).set 2 (.int 0) = [Value.ref (f + 1), .ref A, .int 0] from rfl]
  generalize mv_set h f (.inr (5, [.ref (f + 1), .ref A, .int 0])) = h1 at S1 F1 P1
  refine vob_of S1.1 (((sp_lf (l := l) (f := f) (A := A) hG hX hT hW 4 (Nat.le_refl _)).2.1 0 h0 d h1 0 a x y p (by omega) S1 (by omega) hs P1).mono fun o h2 hq => ?_)
  rcases hq with ⟨r, j, q1, q2, ⟨i, i1, i2, i3⟩, q4, q5, q6⟩ | ⟨q1, ⟨q, q2⟩, h', kk', q3, q4, q5, q6⟩
  · exact Or.inl ⟨_, i2, Or.inl ⟨r, j, q1, q2, ⟨i, i1, rfl, i3⟩, q4, F1.tr q5, q6⟩⟩
  · exact Or.inr ⟨_, q2, EV.fail q1 rfl q3 q4 (F1.tr q5) q6⟩
end FM
