section SI
variable {l : Launch} {G : mv_G} {d A b : Nat} {t : List Nat} {D : dS}
theorem pathL {n : Nat} {g : Nat → Nat} (hG : mv_ok G) (hX : mv_okX l G) (ht : tOk t) (hI : dI t g D) (hW : ∀ n, n < D.1 → nfi (D.2 n) ≠ none ∧ (nou (D.2 n) = none → n = 0)) (hn : n < D.1) (hd : 11 ≤ d) : ∀ (m k e : Nat) (q : List Nat) (h : mv_H) (v cap : Nat), PtS G h A t D b v cap q → 0 < k → k + m = n + 1 → q.length ≤ 1 + 12 * e → (∀ j, k ≤ j → j ≤ n → e < g j) → mv_rq l G mX1_appendPath (d + 1) 9 [some (.ref A), some (.int (nI n)), some (.ref b), some (.int (nI k))] [] h (fun o h1 => o = .inl none ∧ ∃ v' cap', PtS G h1 A t D b v' cap' (q ++ pthF D n m k) ∧ sbG G h h1 b v v' cap cap') := by
  have h40 := hI.1.1
  intro m
  induction m with
  | zero =>
    intro k e q h v cap H h0 hk hl hg
    refine v_X1_appendPath_9 hG ?_
    unfold w_X1_appendPath_9
    refine vif_y (nI_lt (by omega) (by omega)) ⟨rfl, v, cap, ?_, ⟨sbF.rf H.2.2.2.2.2.1 H.2.2.2.2.2.2.1, Nat.le_refl _⟩⟩
    rw [pthF, List.append_nil]; exact H
  | succ m ih =>
    intro k e q h v cap H h0 hk hl hg
    have hkD : k < D.1 := by omega
    obtain ⟨w, w0, w1, w2, w3, w4, w5, w6, w7, w8, w9⟩ := H.1.vl hkD h40
    obtain ⟨s0, V0, I0, hdc0, _⟩ := id H.1
    obtain ⟨en, a, hf⟩ : ∃ en a, nfi (D.2 k) = some (en, a) := by
      cases e : nfi (D.2 k) with
      | none => exact absurd e (hW k hkD).1
      | some p => exact ⟨p.1, p.2, rfl⟩
    have haf : nAf D k = a := by unfold nAf; rw [hf]; rfl
    have hx6 := hI.2.2.2.2.2.1 k en a hkD hf
    have ea : w.2.2.2.2.2.2.2.1 = nI a := (w8 en a hf).2
    refine v_X1_appendPath_9 hG ?_
    unfold w_X1_appendPath_9
    refine vif_n (nI_nlt (by omega) (by omega)) (vNd hdc0 (show k < 40 by omega) rfl (vgi_of w0 rfl ?_))
    rw [ea, pthF, haf]
    refine vif_of (fun c => ?_) (fun c => ?_)
    · have c' : a ≤ n := (nI_leI (by omega) (by omega)).mp c
      rw [if_neg (by omega), List.nil_append, nI_1]
      exact ih (k + 1) e q h v cap H (by omega) (by omega) hl (fun j h1 h2 => hg j (by omega) h2)
    · have c' : ¬ a ≤ n := fun z => c ((nI_leI (by omega) (by omega)).mpr z)
      rw [if_pos (by omega)]
      have hgk := hg k (Nat.le_refl _) (by omega)
      have hg6 := hI.1.2 k (by omega)
      have hsl := stT_len ht hI hkD
      refine vNd hdc0 (show k < 40 by omega) rfl (vob_of hdc0.1 ?_)
      obtain ⟨d, rfl⟩ : ∃ d', d = d' + 1 := ⟨d - 1, by omega⟩
      refine (sp_appendStep hG hX ht hI (fun n hn => (hW n hn).2) H hkD h0 (by omega) (by omega)).mono fun o h1 hq => ?_
      obtain ⟨rfl, v1, cap1, H1, F1⟩ := hq
      refine Or.inl ⟨rfl, ?_⟩
      rw [nI_1]
      refine (ih (k + 1) (g k) (q ++ stT D k) h1 v1 cap1 H1 (by omega) (by omega) ?_ (fun j h1 h2 => hx6.2.2.2.2.2 j (by omega) (by omega))).mono fun o2 h2 hq => ?_
      · rw [List.length_append]
        have : 12 * (e + 1) ≤ 12 * g k := Nat.mul_le_mul_left 12 hgk
        omega
      · obtain ⟨ho, v2, cap2, H2, F2⟩ := hq
        refine ⟨ho, v2, cap2, ?_, F1.tr H.2.2.2.2.2.1 F2⟩
        rw [← List.append_assoc]; exact H2
/-- the path of a node -/
theorem sp_appendPath {n v cap : Nat} {h : mv_H} (hG : mv_ok G) (hX : mv_okX l G) (ht : tOk t) (hW : dW t D) (hn : n < D.1) (H : PtS G h A t D b v cap []) (hd : 11 ≤ d) : mv_rq l G mX1_appendPath (d + 1) 0 (mv_in [.ref A, .int (nI n), .ref b] 4) [] h (fun o h1 => o = .inl none ∧ ∃ v' cap', PtS G h1 A t D b v' cap' (pthT D n) ∧ sbG G h h1 b v v' cap cap') := by
  obtain ⟨⟨g, hI⟩, h0, hW2⟩ := hW
  obtain ⟨fs, hb1⟩ := H.sb
  refine v_X1_appendPath hG ?_
  unfold w_X1_appendPath
  refine vob_of hb1 ?_
  obtain ⟨d, rfl⟩ : ∃ d', d = d' + 1 := ⟨d - 1, by omega⟩
  refine (ps_C (c := 36) (d := d) hG hX H (by simp) (by omega) (by omega)).mono fun o h1 hq => ?_
  obtain ⟨rfl, v1, cap1, H1, F1⟩ := hq
  refine Or.inl ⟨b, rfl, ?_⟩
  refine (pathL hG hX ht hI hW2 hn (by omega) n 1 0 [36] h1 v1 cap1 H1 (by omega) (by omega) (by simp) (fun j h1 h2 => ?_)).mono fun o2 h2 hq => ?_
  · have : nou (D.2 j) ≠ none := fun z => by have := (hW2 j (by omega)).2 z; omega
    cases e : nou (D.2 j) with
    | none => exact absurd e this
    | some o => have := (hI.2.1 j (by omega) o e).2.2; omega
  · obtain ⟨ho, v2, cap2, H2, F2⟩ := hq
    exact ⟨ho, v2, cap2, H2, F1.tr H.2.2.2.2.2.1 F2⟩
theorem srcL {n e s : Nat} {cnt : Int32} {V : Nat → vF} {I : Nat → Nat → Int32} {h : mv_H} (hG : mv_ok G) (hD : hdc G h A s cnt V I) (hs : mv_str G h s t) (hn : n < 40) (hv : (V n).2.2.2.2.2.2.2.2.2 = nI e) (he : e ≤ t.length) (h160 : t.length ≤ 160) (hd : 4 ≤ d) : ∀ (m k : Nat) (i : Bool) (left : Nat), k + m = e → left < 2 ^ 31 → mv_rq l G mX1_sourceCharacter (d + 1) 16 [some (.ref A), some (.int (nI n)), none, some (.int (if i = true then 1 else 0)), some (.int (nI left)), some (.int (nI k)), none] [] h (fun o h1 => o = .inl (some (.int (aAt (txF t m k i) (nI left)))) ∧ h = h1) := by
  intro m
  induction m with
  | zero =>
    intro k i left hk hl
    refine v_X1_sourceCharacter_16 hG ?_
    unfold w_X1_sourceCharacter_16
    refine vNd hD hn rfl (vgi_of (hD.2.2.2.2.1 n hn).1 rfl ?_)
    rw [hv]
    refine vif_y (nI_le (by omega) (by omega)) ⟨?_, rfl⟩
    rw [txF]
    unfold aAt
    rw [if_neg (nI_pos hl), if_neg (by simp)]
  | succ m ih =>
    intro k i left hk hl
    have e4 : ∀ j, lk t j < 128 := (mv_str_at hs).elim fun q ⟨x, y, f, a, b, c, d, e⟩ => d
    have hc0 : (nI (lk t k) = 34) = (lk t k = 34) := by
      rw [show (34 : Int32) = nI 34 from rfl]
      exact propext (nI_eq (by have := e4 k; omega) (by omega))
    have hc1 : (nI (lk t k) = 32) = (lk t k = 32) := by
      rw [show (32 : Int32) = nI 32 from rfl]
      exact propext (nI_eq (by have := e4 k; omega) (by omega))
    have skip : ∀ i', mv_rq l G mX1_sourceCharacter (d + 1) 16 [some (.ref A), some (.int (nI n)), none, some (.int (if i' = true then 1 else 0)), some (.int (nI left)), some (.int (nI k + 1)), none] [] h (fun o h1 => o = .inl (some (.int (aAt (txF t m (k + 1) i') (nI left)))) ∧ h = h1) := fun i' => by
      rw [nI_1]
      exact ih (k + 1) i' left (by omega) hl
    have take0 : ∀ i', nI left = 0 → aAt (lk t k :: txF t m (k + 1) i') (nI left) = nI (lk t k) := fun i' z => by
      rw [z]
      unfold aAt
      rw [if_neg (by decide), if_pos (by simp), show (0 : Int32).toNatClampNeg = 0 from rfl]
      rfl
    have takeS : ∀ i', ¬ nI left = 0 → mv_rq l G mX1_sourceCharacter (d + 1) 16 [some (.ref A), some (.int (nI n)), none, some (.int (if i' = true then 1 else 0)), some (.int (nI left + (-1))), some (.int (nI k + 1)), none] [] h (fun o h1 => o = .inl (some (.int (aAt (lk t k :: txF t m (k + 1) i') (nI left)))) ∧ h = h1) := fun i' z => by
      obtain ⟨w, rfl⟩ : ∃ w, left = w + 1 := ⟨left - 1, by
        have : left ≠ 0 := fun y => z (by rw [y]; rfl)
        omega⟩
      rw [nI_1, nI_prd]
      have : aAt (lk t k :: txF t m (k + 1) i') (nI (w + 1)) = aAt (txF t m (k + 1) i') (nI w) := by
        unfold aAt
        rw [if_neg (nI_pos hl), if_neg (nI_pos (by omega)), nI_clamp hl, nI_clamp (by omega)]
        by_cases c : w < (txF t m (k + 1) i').length
        · rw [if_pos c, if_pos (by simp; omega)]
          rfl
        · rw [if_neg c, if_neg (by simp; omega)]
      rw [this]
      exact ih (k + 1) i' w (by omega) (by omega)
    refine v_X1_sourceCharacter_16 hG ?_
    unfold w_X1_sourceCharacter_16
    obtain ⟨_, _, _, _, hs1, _⟩ := id hs
    refine vNd hD hn rfl (vgi_of (hD.2.2.2.2.1 n hn).1 rfl ?_)
    rw [hv]
    refine vif_n (fun z => ?_) (vgb_of hD.1 rfl (vob_of hs1 (vI_of (sp_charT hG hs (show k < t.length by omega) (by omega)) ?_)))
    · have := (nI_leI (by omega) (by omega)).mp z
      omega
    · rw [hc0, hc1, txF]
      cases i with
      | true =>
        refine vif_of (fun c => vif_n (by decide) (vif_of (fun c2 => absurd c (by omega)) (fun c2 => vif_of (fun c3 => ⟨?_, rfl⟩) (fun c3 => ?_)))) (fun c => vif_n (by decide) (vif_of (fun c3 => ⟨?_, rfl⟩) (fun c3 => ?_)))
        · rw [if_pos c, if_pos (Or.inr c2), take0 _ c3]
        · rw [if_pos c, if_pos (Or.inr c2)]; exact takeS false c3
        · rw [if_neg c, if_pos (Or.inl rfl), take0 _ c3]
        · rw [if_neg c, if_pos (Or.inl rfl)]; exact takeS true c3
      | false =>
        refine vif_of (fun c => vif_y rfl (vif_of (fun c3 => ⟨?_, rfl⟩) (fun c3 => ?_))) (fun c => vif_y rfl (vif_of (fun c2 => ?_) (fun c2 => vif_of (fun c3 => ⟨?_, rfl⟩) (fun c3 => ?_))))
        · rw [if_pos c, if_pos (Or.inl (show (!false) = true from rfl)), take0 _ c3]
        · rw [if_pos c, if_pos (Or.inl (show (!false) = true from rfl))]; exact takeS true c3
        · rw [if_neg c, if_neg (show ¬ (false = true ∨ lk t k ≠ 32) by simp [c2])]; exact skip false
        · rw [if_neg c, if_pos (Or.inr c2), take0 _ c3]
        · rw [if_neg c, if_pos (Or.inr c2)]; exact takeS false c3
theorem sp_source {n i : Nat} {h : mv_H} (hG : mv_ok G) (ht : tOk t) (hW : dW t D) (hn : n < D.1) (H : DH G h A t D) (hi : i < 2 ^ 31) (hd : 4 ≤ d) : mv_rq l G mX1_sourceCharacter (d + 1) 0 (mv_in [.ref A, .int (nI n), .int (nI i)] 7) [] h (fun o h1 => o = .inl (some (.int (aAt (txF t (((nfi (D.2 n)).getD (0, 0)).1 - nbe (D.2 n)) (nbe (D.2 n)) false) (nI i)))) ∧ h = h1) := by
  obtain ⟨⟨g, hI⟩, h0, hW2⟩ := hW
  have h40 := hI.1.1
  obtain ⟨s, V, I, a1, a2, a3⟩ := H
  obtain ⟨x1, x2, x3, x4, x5, x6, x7, x8, x9⟩ := a2 n hn
  obtain ⟨en, a, hf⟩ : ∃ en a, nfi (D.2 n) = some (en, a) := by
    cases e : nfi (D.2 n) with
    | none => exact absurd e (hW2 n hn).1
    | some p => exact ⟨p.1, p.2, rfl⟩
  have hx6 := hI.2.2.2.2.2.1 n en a hn hf
  refine v_X1_sourceCharacter hG ?_
  unfold w_X1_sourceCharacter
  refine vNd a1 (show n < 40 by omega) rfl (vgi_of (a1.2.2.2.2.1 n (by omega)).1 rfl ?_)
  rw [x7, hf]
  exact srcL hG a1 a3 (by omega) (x8 en a hf).1 (by omega) ht.1 hd (en - nbe (D.2 n)) (nbe (D.2 n)) false i (by omega) hi
end SI
