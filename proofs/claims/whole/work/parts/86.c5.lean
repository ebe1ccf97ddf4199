theorem updL_u {α : Type} {V : Nat → α} {n : Nat} {a b : α} : updL (updL V n a) n b = updL V n b := funext fun j => by
  by_cases e : j = n
  · subst e; rw [updL_s, updL_s]
  · rw [updL_n e, updL_n e, updL_n e]
abbrev inD (A : Nat) : Nat → Prop := fun a => A ≤ a ∧ a < A + 83
/-- a change inside the document that leaves texts alone -/
def dst (G : mv_G) (h h1 : mv_H) (A : Nat) : Prop := hst G h h1 (inD A) 0 0 ∧ ksT G h h1
theorem dst.tr {G : mv_G} {h h1 h2 : mv_H} {A : Nat} (a : dst G h h1 A) (b : dst G h1 h2 A) : dst G h h2 A := ⟨a.1.tr b.1 (fun _ _ z => z) (fun _ _ z => z) (by omega) (by omega), a.2.tr b.2⟩
theorem dst.set {G : mv_G} {h : mv_H} {A a : Nat} {e0 e : va_E} (hw : mv_wf h) (hb : G.2.2.1 ≤ h.1) (ha : h.2.2 a = some e0) (hi : inD A a) (hn : ¬ isTx G e0) (he : ∀ fs, e ≠ .inr (0, fs) := by intro fs z; simp at z) : dst G h (mv_set h a e) A := ⟨hst.set hw hb ha hi, ksT.set ha hn he⟩
section DA
variable {l : Launch} {G : mv_G} {d A src : Nat} {h : mv_H} {V : Nat → vF} {I : Nat → Nat → Int32} {D : dS}
theorem sp_dadd {ou : Option Nat} {nm : List Nat} {be b z : Nat} (hG : mv_ok G) (hT : mv_t G 0 ≠ mv_t G 1) (hw : mv_wf h) (hbs : G.2.2.1 ≤ h.1) (hd : hdc G h A src (nI D.1) V I) (hD : dcD G h D V I) (h40 : D.1 < 40) (ho : ∀ o, ou = some o → o < D.1 ∧ (nki (D.2 o)).length < 40 ∧ nsz (D.2 o) = nI (nki (D.2 o)).length) (hb : mv_str G h b nm) (hz : mv_lt G RX1 22 "" z) (hzs : mv_str G h z []) :
    mv_rq l G mX1_add (d + 2) 0 (mv_in [.ref A, .int (oI ou), .ref b, .int (nI be)] 7) [] h (fun o h1 => o = .inl (some (.int (nI D.1))) ∧ (∃ V' I', hdc G h1 A src (nI (D.1 + 1)) V' I' ∧ dcD G h1 (addD D ou nm be) V' I') ∧ dst G h h1 A) := by
  have hA := hd.2.2.2.2.2
  have hcell := hd.2.2.2.2.1 D.1 h40
  refine v_X1_add hG ?_
  unfold w_X1_add
  refine vgi_of hd.1 rfl (vgi_of hd.1 rfl (vpu_of hd.1 hA (show 3 < 4 by omega) rfl ?_))
  have d1 := hd.hdr (src' := src) (cnt' := nI (D.1 + 1))
  have s1 : dst G h (mv_set h A (.inr (3, [.ref (A + 1), .ref (A + 2), .ref src, .int (nI (D.1 + 1))]))) A := dst.set hw hbs hd.1 ⟨by omega, by omega⟩ (nTx_o (by decide))
  rw [show [Value.ref (A + 1), Value.ref (A + 2), Value.ref src, Value.int (nI D.1)].set 3 (.int (nI D.1 + 1)) = [Value.ref (A + 1), Value.ref (A + 2), Value.ref src, Value.int (nI (D.1 + 1))] by rw [nI_1]; rfl]
  obtain ⟨h1, e1⟩ : ∃ h1, h1 = mv_set h A (.inr (3, [.ref (A + 1), .ref (A + 2), .ref src, .int (nI (D.1 + 1))])) := ⟨_, rfl⟩
  rw [← e1] at d1 s1 ⊢
  have c1 := (d1.2.2.2.2.1 D.1 h40).1
  refine vNd d1 h40 rfl (vst_of hz (vob_of c1 ?_))
  refine vU_of (sp_become hG c1 (by omega) (by omega)) ?_
  -- the value's own cell
  have hx : G.2.2.1 ≤ A + 43 + D.1 := by omega
  refine vpu_of hs_s hx (show 4 < 10 by omega) rfl (vpu_of hs_s hx (show 5 < 10 by omega) rfl (vpu_of hs_s hx (show 8 < 10 by omega) rfl (vpu_of hs_s hx (show 6 < 10 by omega) rfl ?_)))
  simp only [mv_set_set]
  obtain ⟨w, ew⟩ : ∃ w : vF, w = (0, 0, z, (V D.1).2.2.2.1, b, oI ou, 0, (V D.1).2.2.2.2.2.2.2.1, nI be, (V D.1).2.2.2.2.2.2.2.2.2) := ⟨_, rfl⟩
  obtain ⟨h2, e2⟩ : ∃ h2, h2 = mv_set h1 (A + 43 + D.1) (vE w) := ⟨_, rfl⟩
  have e2' : mv_set h1 (A + 43 + D.1) (.inr (13, ((((([Value.int 0, .int 0, .ref z, .int (V D.1).2.2.2.1, .ref (V D.1).2.2.2.2.1, .int (V D.1).2.2.2.2.2.1, .int (V D.1).2.2.2.2.2.2.1, .int (V D.1).2.2.2.2.2.2.2.1, .int (V D.1).2.2.2.2.2.2.2.2.1, .int (V D.1).2.2.2.2.2.2.2.2.2] : List Value).set 4 (.ref b)).set 5 (.int (oI ou))).set 8 (.int (nI be))).set 6 (.int 0)))) = h2 := by
    rw [e2, ew]; rfl
  rw [e2']
  have hnu : w.2.2.2.1 = nI D.1 := by rw [ew]; exact hcell.2
  have d2 : hdc G h2 A src (nI (D.1 + 1)) (updL V D.1 w) I := by rw [e2]; exact d1.val h40 hnu
  have s2 : dst G h1 h2 A := by rw [e2]; exact dst.set s1.1.1 (s1.1.2.1) c1 ⟨by omega, by omega⟩ (nTx_o (by decide))
  have s02 := s1.tr s2
  have c2 : h2.2.2 (A + 43 + D.1) = some (vE w) := by rw [e2]; exact hs_s
  -- of the old ones
  have old : ∀ i, i < D.1 → dcV G h2 (D.2 i) (V i) (I i) := fun i hi => (hD i hi).k s02.2
  have new : ∀ (pl : Nat) (w' : vF) (h' : mv_H), ksT G h2 h' → w' = (0, 0, z, (V D.1).2.2.2.1, b, oI ou, nI pl, (V D.1).2.2.2.2.2.2.2.1, nI be, (V D.1).2.2.2.2.2.2.2.2.2) → dcV G h' (nwR nm ou pl be) w' (I D.1) := fun pl w' h' k e => by
    rw [e]
    exact ⟨rfl, rfl, (s02.2.tr k).s hzs, (s02.2.tr k).s hb, rfl, rfl, rfl, fun e a z => (nomatch z), fun j hj => absurd hj (Nat.not_lt_zero _)⟩
  refine vob_of d2.1 (vI_of (sp_has hG d2 (by omega)) ?_)
  cases ou with
  | none =>
    refine vif_y ?_ ⟨trivial, ⟨updL V D.1 w, I, d2, fun i hi => ?_⟩, s02⟩
    · rw [if_neg]
      intro z
      have : (oI none).toInt = -1 := rfl
      omega
    · have hi' : i < D.1 + 1 := hi
      show dcV G h2 (if i = D.1 then _ else D.2 i) (updL V D.1 w i) (I i)
      by_cases e : i = D.1
      · subst e
        rw [if_pos rfl, updL_s]
        exact new 0 w h2 ksT.rf (by rw [ew]; rfl)
      · rw [if_neg e, updL_n e]
        exact old i (by omega)
  | some o =>
    obtain ⟨o1, o2, o3⟩ := ho o rfl
    have hne : o ≠ D.1 := by omega
    have hvo := hD o o1
    have ezo : (V o).2.1 = nI (nki (D.2 o)).length := hvo.2.1.trans o3
    refine vif_n ?_ ?_
    · rw [if_pos ⟨by rw [show (oI (some o)).toInt = (nI o).toInt from rfl, nI_toInt (by omega)]; omega, by rw [show (oI (some o)).toInt = (nI o).toInt from rfl, nI_toInt (by omega)]; omega⟩]
      decide
    · have c2o : h2.2.2 (A + 43 + o) = some (vE (V o)) := by
        have := (d2.2.2.2.2.1 o (by omega)).1
        rwa [updL_n hne] at this
      refine vNd d2 (show o < 40 by omega) rfl (vgi_of c2o rfl (vpu_of c2 hx (show 6 < 10 by omega) rfl ?_))
      obtain ⟨w3, ew3⟩ : ∃ w3 : vF, w3 = (0, 0, z, (V D.1).2.2.2.1, b, oI (some o), nI (nki (D.2 o)).length, (V D.1).2.2.2.2.2.2.2.1, nI be, (V D.1).2.2.2.2.2.2.2.2.2) := ⟨_, rfl⟩
      obtain ⟨h3, e3⟩ : ∃ h3, h3 = mv_set h2 (A + 43 + D.1) (vE w3) := ⟨_, rfl⟩
      have e3' : mv_set h2 (A + 43 + D.1) (.inr (13, ([Value.int w.1, .int w.2.1, .ref w.2.2.1, .int w.2.2.2.1, .ref w.2.2.2.2.1, .int w.2.2.2.2.2.1, .int w.2.2.2.2.2.2.1, .int w.2.2.2.2.2.2.2.1, .int w.2.2.2.2.2.2.2.2.1, .int w.2.2.2.2.2.2.2.2.2] : List Value).set 6 (.int (V o).2.1))) = h3 := by
        rw [e3, ew3, ew, ezo]; rfl
      rw [e3']
      have d3 : hdc G h3 A src (nI (D.1 + 1)) (updL V D.1 w3) I := by
        rw [e3]
        have := d2.val (v := w3) h40 (by rw [ew3]; exact hcell.2)
        rwa [updL_u] at this
      have s3 : dst G h2 h3 A := by rw [e3]; exact dst.set s02.1.1 s02.1.2.1 c2 ⟨by omega, by omega⟩ (nTx_o (by decide))
      have c3o : h3.2.2 (A + 43 + o) = some (vE (V o)) := by
        have := (d3.2.2.2.2.1 o (by omega)).1
        rwa [updL_n hne] at this
      have c3i := d3.2.2.2.1 o (show o < 40 by omega)
      refine vIn d3 (show o < 40 by omega) rfl (vgi_of c3o rfl (vsi_of (j := (nki (D.2 o)).length) c3i (by omega) ezo (by omega) (by omega) ?_))
      obtain ⟨h4, e4⟩ : ∃ h4, h4 = mv_set h3 (A + 3 + o) (.inl (mv_t G 1, 40, .inl (upd (I o) (nki (D.2 o)).length (nI D.1)))) := ⟨_, rfl⟩
      rw [← e4]
      have d4 : hdc G h4 A src (nI (D.1 + 1)) (updL V D.1 w3) (updL I o (upd (I o) (nki (D.2 o)).length (nI D.1))) := by rw [e4]; exact d3.inn (by omega)
      have s03 := s02.tr s3
      have s4 : dst G h3 h4 A := by rw [e4]; exact dst.set s03.1.1 s03.1.2.1 c3i ⟨by omega, by omega⟩ (nTx_a hT)
      have s04 := s03.tr s4
      have c4o : h4.2.2 (A + 43 + o) = some (vE (V o)) := by
        have := (d4.2.2.2.2.1 o (by omega)).1
        rwa [updL_n hne] at this
      obtain ⟨w5, ew5⟩ : ∃ w5 : vF, w5 = ((V o).1, nI ((nki (D.2 o)).length + 1), (V o).2.2) := ⟨_, rfl⟩
      obtain ⟨h5, e5⟩ : ∃ h5, h5 = mv_set h4 (A + 43 + o) (vE w5) := ⟨_, rfl⟩
      have d5 : hdc G h5 A src (nI (D.1 + 1)) (updL (updL V D.1 w3) o w5) (updL I o (upd (I o) (nki (D.2 o)).length (nI D.1))) := by
        rw [e5]
        exact d4.val (by omega) (by rw [ew5]; exact (hd.2.2.2.2.1 o (by omega)).2)
      have s5 : dst G h4 h5 A := by rw [e5]; exact dst.set s04.1.1 s04.1.2.1 c4o ⟨by omega, by omega⟩ (nTx_o (by decide))
      have s05 := s04.tr s5
      refine vgi_of c4o rfl (vpu_of c4o (by omega) (show 1 < 10 by omega) (fs' := [Value.int w5.1, .int w5.2.1, .ref w5.2.2.1, .int w5.2.2.2.1, .ref w5.2.2.2.2.1, .int w5.2.2.2.2.2.1, .int w5.2.2.2.2.2.2.1, .int w5.2.2.2.2.2.2.2.1, .int w5.2.2.2.2.2.2.2.2.1, .int w5.2.2.2.2.2.2.2.2.2]) ?_ ?_)
      · rw [ew5, ezo, nI_1]; rfl
      · have e5' : mv_set h4 (A + 43 + o) (.inr (13, [Value.int w5.1, .int w5.2.1, .ref w5.2.2.1, .int w5.2.2.2.1, .ref w5.2.2.2.2.1, .int w5.2.2.2.2.2.1, .int w5.2.2.2.2.2.2.1, .int w5.2.2.2.2.2.2.2.1, .int w5.2.2.2.2.2.2.2.2.1, .int w5.2.2.2.2.2.2.2.2.2])) = h5 := by rw [e5]
        rw [e5']
        refine ⟨trivial, ⟨_, _, d5, fun i hi => ?_⟩, s05⟩
        have hi' : i < D.1 + 1 := hi
        show dcV G h5 (if i = D.1 then _ else if i = o then _ else D.2 i) _ _
        by_cases e : i = D.1
        · subst e
          rw [if_pos rfl, updL_n (fun z => hne z.symm), updL_n (fun z => hne z.symm), updL_s]
          exact new _ w3 h5 (s3.2.tr (s4.2.tr s5.2)) ew3
        · rw [if_neg e]
          by_cases ei : i = o
          · subst ei
            rw [if_pos rfl, updL_s, updL_s, ew5]
            have hq := (hD i o1).k s05.2
            obtain ⟨q1, q2, q3, q4, q5, q6, q7, q8, q9⟩ := hq
            refine ⟨q1, ?_, q3, q4, q5, q6, q7, q8, fun j hj => ?_⟩
            · show nI _ = nsz (D.2 i) + 1
              rw [o3, nI_1]
            · have hj' : j < (nki (D.2 i) ++ [D.1]).length := hj
              show upd (I i) _ _ j = nI (lk (nki (D.2 i) ++ [D.1]) j)
              rw [lk_app]
              simp at hj'
              by_cases ej : j = (nki (D.2 i)).length
              · rw [ej, upd_s, if_neg (by omega), if_pos rfl]
              · rw [upd_n ej, if_pos (by omega)]
                exact q9 j (by omega)
          · rw [if_neg ei, updL_n ei, updL_n ei, updL_n e]
            exact (hD i (by omega)).k s05.2
end DA
