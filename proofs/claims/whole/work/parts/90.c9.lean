section RB
variable {l : Launch} {G : mv_G} {d A r c s n p : Nat} {h : mv_H} {t : List Nat} {D : dS}
/-- a value of the document is written anew -/
theorem RS.val {w : Nat → vF → vF} {u : nR → nR} (H : RS G h r c A s t p D) (hn : n < D.1) (V : Nat → vF) (I : Nat → Nat → Int32) (v : vF) (x : nR) (d1 : hdc G h A s (nI D.1) V I) (d2 : dcD G h D V I) (hv : v.2.2.2.1 = nI n) (hx : dcV G h x v (I n)) : RS G (mv_set h (A + 43 + n) (vE v)) r c A s t p (dU D n x) ∧ rst G h (mv_set h (A + 43 + n) (vE v)) A c 0 ∧ hdc G (mv_set h (A + 43 + n) (vE v)) A s (nI D.1) (updL V n v) I ∧ dcD G (mv_set h (A + 43 + n) (vE v)) (dU D n x) (updL V n v) I := by
  have h40 := H.2.2.2.2.2.2.2
  obtain ⟨hw, hb⟩ := H.wf
  have hcell := d1.2.2.2.2.1 n (by omega)
  have hdst : dst G h (mv_set h (A + 43 + n) (vE v)) A := dst.set hw hb hcell.1 ⟨by omega, by omega⟩ (nTx_o (by decide))
  have hd' : hdc G (mv_set h (A + 43 + n) (vE v)) A s (nI D.1) (updL V n v) I := d1.val (by omega) hv
  have hD' : dcD G (mv_set h (A + 43 + n) (vE v)) (dU D n x) (updL V n v) I := fun i hi => by
    show dcV G _ (if i = n then _ else D.2 i) _ _
    by_cases e : i = n
    · subst e
      rw [if_pos rfl, updL_s]
      exact hx.k hdst.2
    · rw [if_neg e, updL_n e]
      exact (d2 i hi).k hdst.2
  obtain ⟨H1, R1⟩ := H.doc (D' := dU D n x) hdst ⟨_, _, hd', hD'⟩ h40
  exact ⟨H1, R1, hd', hD'⟩
/-- the value's end -/
theorem sp_133 (hG : mv_ok G) (H : RS G h r c A s t p D) (ht : tOk t) (hn : n < D.1) (hd : 6 ≤ d) : mv_rq l G mX2_readValue (d + 1) 133 [some (.ref r), none, none, none, none, some (.ref (A + 43 + n))] [] h (fun o h1 => o = .inl none ∧ RS G h1 r c A s t (bl t p) (setF D n p) ∧ rst G h h1 A c 0) := by
  have hcb := H.2.2.2.2.2.1.2.2.2
  have h40 := H.2.2.2.2.2.2.2
  obtain ⟨V, I, d1, d2⟩ := H.2.2.1
  have hcell := d1.2.2.2.2.1 n (by omega)
  have hA := d1.2.2.2.2.2
  refine v_X2_readValue_133 hG ?_
  unfold w_X2_readValue_133
  refine vgb_of H.1 rfl (vgi_of H.2.1 rfl (vpu_of hcell.1 (by omega) (show 9 < 10 by omega) rfl ?_))
  obtain ⟨v1, ev1⟩ : ∃ v1 : vF, v1 = ((V n).1, (V n).2.1, (V n).2.2.1, (V n).2.2.2.1, (V n).2.2.2.2.1, (V n).2.2.2.2.2.1, (V n).2.2.2.2.2.2.1, (V n).2.2.2.2.2.2.2.1, (V n).2.2.2.2.2.2.2.2.1, nI p) := ⟨_, rfl⟩
  have eh1 : mv_set h (A + 43 + n) (.inr (13, ([Value.int (V n).1, .int (V n).2.1, .ref (V n).2.2.1, .int (V n).2.2.2.1, .ref (V n).2.2.2.2.1, .int (V n).2.2.2.2.2.1, .int (V n).2.2.2.2.2.2.1, .int (V n).2.2.2.2.2.2.2.1, .int (V n).2.2.2.2.2.2.2.2.1, .int (V n).2.2.2.2.2.2.2.2.2] : List Value).set 9 (.int (nI p)))) = mv_set h (A + 43 + n) (vE v1) := by rw [ev1]; rfl
  rw [eh1]
  have r1 : (mv_set h (A + 43 + n) (vE v1)).2.2 r = some (.inr (4, [.ref c, .ref A])) := by
    rw [hs_n (by have := H.2.2.2.2.2.1.1; omega)]; exact H.1
  have a1 : (mv_set h (A + 43 + n) (vE v1)).2.2 A = some (.inr (3, [.ref (A + 1), .ref (A + 2), .ref s, .int (nI D.1)])) := by
    rw [hs_n (by omega)]; exact d1.1
  refine vgb_of r1 rfl (vgi_of a1 rfl (vpu_of hs_s (by omega) (show 7 < 10 by omega) rfl ?_))
  obtain ⟨v2, ev2⟩ : ∃ v2 : vF, v2 = ((V n).1, (V n).2.1, (V n).2.2.1, (V n).2.2.2.1, (V n).2.2.2.2.1, (V n).2.2.2.2.2.1, (V n).2.2.2.2.2.2.1, nI D.1, (V n).2.2.2.2.2.2.2.2.1, nI p) := ⟨_, rfl⟩
  have eh2 : mv_set (mv_set h (A + 43 + n) (vE v1)) (A + 43 + n) (.inr (13, ([Value.int v1.1, .int v1.2.1, .ref v1.2.2.1, .int v1.2.2.2.1, .ref v1.2.2.2.2.1, .int v1.2.2.2.2.2.1, .int v1.2.2.2.2.2.2.1, .int v1.2.2.2.2.2.2.2.1, .int v1.2.2.2.2.2.2.2.2.1, .int v1.2.2.2.2.2.2.2.2.2] : List Value).set 7 (.int (nI D.1)))) = mv_set h (A + 43 + n) (vE v2) := by
    rw [mv_set_set, ev1, ev2]; rfl
  rw [eh2]
  obtain ⟨q1, q2, q3, q4, q5, q6, q7, q8, q9⟩ := d2 n hn
  obtain ⟨H1, R1, _, _⟩ := H.val (w := fun _ x => x) (u := fun x => x) hn V I v2 (nkd (D.2 n), nsz (D.2 n), ntx (D.2 n), nnm (D.2 n), nou (D.2 n), npl (D.2 n), nbe (D.2 n), some (p, D.1), nki (D.2 n)) d1 d2 (by rw [ev2]; exact hcell.2) (by
    rw [ev2]
    exact ⟨q1, q2, q3, q4, q5, q6, q7, fun e a z => by cases z; exact ⟨rfl, rfl⟩, q9⟩)
  generalize mv_set h (A + 43 + n) (vE v2) = h1 at H1 R1
  refine vgb_of H1.1 rfl (vob_of H1.2.1 (vU_of (sp_skipBlanks hG H1.2.1 H1.2.2.2.1 H1.2.2.2.2.2.2.1 hcb (by omega)) ?_))
  obtain ⟨H2, R2⟩ := H1.cur (p' := skB t 160 p) (bl_le H.2.2.2.2.2.2.1)
  exact ⟨rfl, H2, R1.tr R2 (by omega)⟩
/-- a value without children -/
theorem sp_plainD (hG : mv_ok G) (hX : mv_okX l G) (H : RS G h r c A s t p D) (ht : tOk t) (hn : n < D.1) (hd : 10 ≤ d) : mv_rq l G mX0_readPlain d 0 (mv_in [.ref c, .ref (A + 43 + n), .int 34, .int 92] 5) [] h (fun o h1 => match pL t n D p with
    | .inl (D', p') => o = .inl none ∧ RS G h1 r c A s t p' D' ∧ rst G h h1 A c 2
    | .inr w => ∃ E, o = .inr (xIA, E) ∧ IL G h h1 r c A s w 1) := by
  have hcb := H.2.2.2.2.2.1.2.2.2
  have h40 := H.2.2.2.2.2.2.2
  obtain ⟨V, I, d1, d2⟩ := H.2.2.1
  have hcell := d1.2.2.2.2.1 n (by omega)
  have hA := d1.2.2.2.2.2
  obtain ⟨z0, z1, z2, z3, hl⟩ := H.2.2.2.2.1.2.1
  refine (sp_readPlain hG hX (qt := 34) (br := 92) H.2.1 H.2.2.2.1 hcell.1 H.2.2.2.2.1.1 hl ht.1 (by decide) (by decide) (by decide) H.2.2.2.2.2.2.1 hcb (by omega) hd).mono fun o h1 hq => ?_
  unfold pL
  rcases hq with ⟨kd, sz, tx, p', a, hm, e1, e2, e3, e4, e5, e6⟩ | ⟨w, p'', e1, e2, e3⟩
  · rw [e1]
    obtain ⟨H1, R1⟩ := H.cur (p' := p') e2
    obtain ⟨H2, R2⟩ := H1.made e4
    have k02 : ksT G h hm := R1.2.tr R2.2
    have hAn : ∀ b, A ≤ b → b < A + 83 → hm.2.2 b = h.2.2 b := fun b b1 b2 => by
      have hb1 : b < h.1 := by
        have := mv_wf_lt H.wf.1 (d1.2.2.2.2.1 39 (by omega)).1
        omega
      rw [e4.2.2.2.2.1 b hb1, hs_n (by have := H.2.2.2.2.2.1.2.1; omega)]
    have d1' : hdc G hm A s (nI D.1) V I := d1.fr hAn
    have d2' : dcD G hm D V I := d2.k k02
    obtain ⟨q1, q2, q3, q4, q5⟩ := d2' n hn
    obtain ⟨H3, R3, _, _⟩ := H2.val (w := fun _ x => x) (u := fun x => x) hn V I (kd, sz, a, (V n).2.2.2) (kd, sz, tx, (D.2 n).2.2.2) d1' d2' hcell.2 ⟨rfl, rfl, e5, q4, q5⟩
    rw [e6] at H3 R3
    exact ⟨e3, H3, (R1.tr R2 (k := 2) (by omega)).tr R3 (by omega)⟩
  · rw [e1]
    refine ⟨_, e2, ?_⟩
    rw [← e3]
    exact H.ill
end RB
