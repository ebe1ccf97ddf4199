/-! what a document on the heap says -/
def dcV (G : mv_G) (h : mv_H) (r : nR) (v : vF) (f : Nat → Int32) : Prop := v.1 = nkd r ∧ v.2.1 = nsz r ∧ mv_str G h v.2.2.1 (ntx r) ∧ mv_str G h v.2.2.2.2.1 (nnm r) ∧ v.2.2.2.2.2.1 = oI (nou r) ∧ v.2.2.2.2.2.2.1 = nI (npl r) ∧ v.2.2.2.2.2.2.2.2.1 = nI (nbe r) ∧ (∀ e a, nfi r = some (e, a) → v.2.2.2.2.2.2.2.2.2 = nI e ∧ v.2.2.2.2.2.2.2.1 = nI a) ∧ ∀ j, j < (nki r).length → f j = nI (lk (nki r) j)
def dcD (G : mv_G) (h : mv_H) (D : dS) (V : Nat → vF) (I : Nat → Nat → Int32) : Prop := ∀ i, i < D.1 → dcV G h (D.2 i) (V i) (I i)
/-- what texts are made of: Strings, arrays of bytes -/
def isTx (G : mv_G) (e : va_E) : Prop := (∃ fs, e = .inr (0, fs)) ∨ ∃ y, e = .inl (mv_t G 0, y)
/-- texts stay where they are; Strings that are new have arrays of their own -/
def ksT (G : mv_G) (h h1 : mv_H) : Prop := (∀ q e, h.2.2 q = some e → isTx G e → h1.2.2 q = some e) ∧ h.1 ≤ h1.1 ∧ ∀ (a q : Nat) (x : List Value), h1.2.2 a = some (.inr (0, .ref q :: x)) → h.2.2 a = some (.inr (0, .ref q :: x)) ∨ h.1 ≤ q ∧ q < h1.1
theorem ksT.rf {G : mv_G} {h : mv_H} : ksT G h h := ⟨fun _ _ z _ => z, Nat.le_refl _, fun _ _ _ z => Or.inl z⟩
theorem ksT.tr {G : mv_G} {h h1 h2 : mv_H} (a : ksT G h h1) (b : ksT G h1 h2) : ksT G h h2 := ⟨fun q e z w => b.1 q e (a.1 q e z w) w, Nat.le_trans a.2.1 b.2.1, fun c q x z => by
  rcases b.2.2 c q x z with w | w
  · rcases a.2.2 c q x w with w | w
    · exact Or.inl w
    · exact Or.inr ⟨w.1, Nat.lt_of_lt_of_le w.2 b.2.1⟩
  · exact Or.inr ⟨Nat.le_trans a.2.1 w.1, w.2⟩⟩
theorem ksT.s {G : mv_G} {h h1 : mv_H} (k : ksT G h h1) {a : Nat} {t : List Nat} (hs : mv_str G h a t) : mv_str G h1 a t := by
  obtain ⟨q, x, y, f, a1, a2, a3⟩ := hs
  exact ⟨q, x, y, f, k.1 _ _ a1 (Or.inl ⟨_, rfl⟩), k.1 _ _ a2 (Or.inr ⟨_, rfl⟩), a3⟩
theorem ksT.set {G : mv_G} {h : mv_H} {a : Nat} {e0 e : va_E} (ha : h.2.2 a = some e0) (h0 : ¬ isTx G e0) (he : ∀ fs, e ≠ .inr (0, fs) := by intro fs z; simp at z) : ksT G h (mv_set h a e) := by
  refine ⟨fun q e' z w => ?_, Nat.le_refl _, fun b q x z => ?_⟩
  · by_cases c : q = a
    · subst c
      rw [ha] at z
      cases z
      exact absurd w h0
    · rw [hs_n c]; exact z
  · by_cases c : b = a
    · subst c
      rw [hs_s] at z
      exact absurd (Option.some.inj z) (he _)
    · rw [hs_n c] at z; exact Or.inl z
theorem ksT.thr {G : mv_G} {h : mv_H} : ksT G h (thr h) := ⟨fun _ _ z _ => z, Nat.le_succ _, fun _ _ _ z => Or.inl z⟩
theorem nTx_o {G : mv_G} {ci : Nat} {fs : List Value} (h : ci ≠ 0) : ¬ isTx G (.inr (ci, fs)) := fun z => by
  rcases z with ⟨fs', e⟩ | ⟨y, e⟩
  · simp only [Sum.inr.injEq, Prod.mk.injEq] at e
    exact h e.1
  · cases e
theorem nTx_a {G : mv_G} {t : Nat} {y : vp_A} (h : mv_t G 0 ≠ mv_t G t) : ¬ isTx G (.inl (mv_t G t, y)) := fun z => by
  rcases z with ⟨fs', e⟩ | ⟨y', e⟩
  · cases e
  · simp only [Sum.inl.injEq, Prod.mk.injEq] at e
    exact h e.1.symm
theorem dcV.k {G : mv_G} {h h1 : mv_H} {r : nR} {v : vF} {f : Nat → Int32} (hv : dcV G h r v f) (k : ksT G h h1) : dcV G h1 r v f := by
  obtain ⟨a, b, c, d, e⟩ := hv
  exact ⟨a, b, k.s c, k.s d, e⟩
theorem dcD.k {G : mv_G} {h h1 : mv_H} {D : dS} {V : Nat → vF} {I : Nat → Nat → Int32} (hd : dcD G h D V I) (k : ksT G h h1) : dcD G h1 D V I := fun i hi => (hd i hi).k k
theorem lk_in {l : List Nat} {j : Nat} (h : j < l.length) : lk l j ∈ l := by
  unfold lk
  rw [List.getD_eq_getElem?_getD, List.getElem?_eq_getElem h]
  exact List.getElem_mem h
section CN
variable {l : Launch} {G : mv_G} {d A src n : Nat} {h : mv_H} {V : Nat → vF} {I : Nat → Nat → Int32} {D : dS} {cnt : Int32}
theorem sp_cnL {b : Nat} {u : List Nat} (hG : mv_ok G) (hd : hdc G h A src cnt V I) (hD : dcD G h D V I) (h40 : D.1 ≤ 40) (hn : n < D.1) (hk : ∀ k, k ∈ nki (D.2 n) → k < D.1) (hl : (nki (D.2 n)).length ≤ 40) (hsz : nsz (D.2 n) = nI (nki (D.2 n)).length) (hb : mv_str G h b u) : ∀ (ks pre : List Nat), nki (D.2 n) = pre ++ ks → mv_rq l G mX1_childNamed (d + 2) 18 [some (.ref A), some (.int (nI n)), some (.ref b), some (.int (nI pre.length)), none] [] h (fun o h1 => o = .inl (some (.int (oI (ks.find? fun j => nnm (D.2 j) == u)))) ∧ h = h1) := by
  have hv := hD n hn
  have hval := (hd.2.2.2.2.1 n (by omega)).1
  have e1 : (V n).2.1 = nI (nki (D.2 n)).length := hv.2.1.trans hsz
  intro ks
  induction ks with
  | nil =>
    intro pre he
    refine v_X1_childNamed_18 hG ?_
    unfold w_X1_childNamed_18
    refine vNd hd (by omega) rfl (vgi_of hval rfl (vif_y ?_ ⟨rfl, rfl⟩))
    show (V n).2.1 ≤ _
    rw [e1, he]
    exact nI_le (by simp) (by rw [he] at hl; simp at hl; omega)
  | cons c r ih =>
    intro pre he
    have hlen : (nki (D.2 n)).length = pre.length + r.length + 1 := by rw [he]; simp; omega
    have hc : c < D.1 := hk c (by rw [he]; simp)
    have hvc := hD c hc
    have ef : I n pre.length = nI c := by
      rw [hv.2.2.2.2.2.2.2.2 pre.length (by omega), he]
      unfold lk
      simp
    refine v_X1_childNamed_18 hG ?_
    unfold w_X1_childNamed_18
    refine vNd hd (by omega) rfl (vgi_of hval rfl (vif_n ?_ ?_))
    · show ¬ (V n).2.1 ≤ _
      rw [e1]
      exact nI_ge (by omega) (by omega)
    · refine vIn hd (by omega) rfl (vai_of (hd.2.2.2.1 n (by omega)) rfl (by omega) (by omega) ?_)
      rw [ef]
      refine vNd hd (show c < 40 by omega) rfl (vgb_of (hd.2.2.2.2.1 c (by omega)).1 rfl ?_)
      obtain ⟨q, x, y, f, s1, _⟩ := mv_str_at hvc.2.2.2.1
      refine vob_of s1 (vI_of (sp_equals hG hvc.2.2.2.1 hb) (vif_of (fun z => ?_) (fun z => ⟨?_, rfl⟩)))
      · have hne : ¬ nnm (D.2 c) = u := fun w => by rw [if_pos w] at z; exact absurd z (by decide)
        rw [nI_1, List.find?_cons, beq_eq_false_iff_ne.mpr hne]
        have := ih (pre ++ [c]) (by rw [he]; simp)
        rw [List.length_append] at this
        exact this
      · have hne : nnm (D.2 c) = u := Classical.byContradiction fun w => by rw [if_neg w] at z; exact absurd rfl z
        rw [List.find?_cons, beq_iff_eq.mpr hne]
        rfl
theorem sp_childNamed {b : Nat} {u : List Nat} (hG : mv_ok G) (hd : hdc G h A src cnt V I) (hD : dcD G h D V I) (h40 : D.1 ≤ 40) (hn : n < D.1) (hk : ∀ k, k ∈ nki (D.2 n) → k < D.1) (hl : (nki (D.2 n)).length ≤ 40) (hsz : nkd (D.2 n) = 6 → nsz (D.2 n) = nI (nki (D.2 n)).length) (hb : mv_str G h b u) : mv_rq l G mX1_childNamed (d + 2) 0 (mv_in [.ref A, .int (nI n), .ref b] 5) [] h (fun o h1 => o = .inl (some (.int (oI (if nkd (D.2 n) = 6 then kidN D n u else none)))) ∧ h = h1) := by
  have hv := hD n hn
  refine v_X1_childNamed hG ?_
  unfold w_X1_childNamed
  refine vNd hd (by omega) rfl (vgi_of (hd.2.2.2.2.1 n (by omega)).1 rfl (vif_of (fun c => ?_) (fun c => ⟨?_, rfl⟩)))
  · have c' : nkd (D.2 n) = 6 := hv.1.symm.trans c
    rw [if_pos c']
    exact sp_cnL hG hd hD h40 hn hk hl (hsz c') hb (nki (D.2 n)) [] rfl
  · have c' : ¬ nkd (D.2 n) = 6 := fun z => c (hv.1.trans z)
    rw [if_neg c']
    rfl
end CN
