/-! the class's documents on the heap -/
theorem hs_s {h : mv_H} {a : Nat} {e : va_E} : (mv_set h a e).2.2 a = some e := if_pos rfl
theorem hs_n {h : mv_H} {a b : Nat} {e : va_E} (n : b ≠ a) : (mv_set h a e).2.2 b = h.2.2 b := if_neg n
/-- kind, size, string, number, name, outer, place, after, begin, end -/
abbrev vF : Type := Int32 × Int32 × Nat × Int32 × Nat × Int32 × Int32 × Int32 × Int32 × Int32
abbrev vE (v : vF) : va_E := valE v.1 v.2.1 v.2.2.1 v.2.2.2.1 v.2.2.2.2.1 v.2.2.2.2.2.1 v.2.2.2.2.2.2.1 v.2.2.2.2.2.2.2.1 v.2.2.2.2.2.2.2.2.1 v.2.2.2.2.2.2.2.2.2
def hdc (G : mv_G) (h : mv_H) (A src : Nat) (cnt : Int32) (V : Nat → vF) (I : Nat → Nat → Int32) : Prop :=
  h.2.2 A = some (.inr (3, [.ref (A + 1), .ref (A + 2), .ref src, .int cnt])) ∧
  (∃ f, h.2.2 (A + 1) = some (.inl (mv_t G 4, 40, .inr (.inr (.inr (.inr f))))) ∧ ∀ i, i < 40 → f i = some (A + 43 + i)) ∧
  (∃ f, h.2.2 (A + 2) = some (.inl (mv_t G 6, 40, .inr (.inr (.inr (.inr f))))) ∧ ∀ i, i < 40 → f i = some (A + 3 + i)) ∧
  (∀ i, i < 40 → h.2.2 (A + 3 + i) = some (.inl (mv_t G 1, 40, .inl (I i)))) ∧
  (∀ i, i < 40 → h.2.2 (A + 43 + i) = some (vE (V i)) ∧ (V i).2.2.2.1 = nI i) ∧ G.2.2.1 ≤ A
theorem hdc.fr {G : mv_G} {h h1 : mv_H} {A src : Nat} {cnt : Int32} {V : Nat → vF} {I : Nat → Nat → Int32} (hd : hdc G h A src cnt V I) (k : ∀ a, A ≤ a → a < A + 83 → h1.2.2 a = h.2.2 a) : hdc G h1 A src cnt V I := by
  obtain ⟨h1', ⟨f, h2, h3⟩, ⟨g, h4, h5⟩, h6, h7, h8⟩ := hd
  exact ⟨by rw [k A (by omega) (by omega)]; exact h1', ⟨f, by rw [k _ (by omega) (by omega)]; exact h2, h3⟩, ⟨g, by rw [k _ (by omega) (by omega)]; exact h4, h5⟩, fun i hi => by rw [k _ (by omega) (by omega)]; exact h6 i hi, fun i hi => ⟨by rw [k _ (by omega) (by omega)]; exact (h7 i hi).1, (h7 i hi).2⟩, h8⟩
theorem hdc.els {G : mv_G} {h : mv_H} {A src a : Nat} {e : va_E} {cnt : Int32} {V : Nat → vF} {I : Nat → Nat → Int32} (hd : hdc G h A src cnt V I) (ha : a < A ∨ A + 83 ≤ a) : hdc G (mv_set h a e) A src cnt V I := hd.fr fun b h1 h2 => hs_n (by omega)
theorem hdc.hdr {G : mv_G} {h : mv_H} {A src src' : Nat} {cnt cnt' : Int32} {V : Nat → vF} {I : Nat → Nat → Int32} (hd : hdc G h A src cnt V I) : hdc G (mv_set h A (.inr (3, [.ref (A + 1), .ref (A + 2), .ref src', .int cnt']))) A src' cnt' V I := by
  obtain ⟨h1', ⟨f, h2, h3⟩, ⟨g, h4, h5⟩, h6, h7, h8⟩ := hd
  exact ⟨hs_s, ⟨f, by rw [hs_n (by omega)]; exact h2, h3⟩, ⟨g, by rw [hs_n (by omega)]; exact h4, h5⟩, fun i hi => by rw [hs_n (by omega)]; exact h6 i hi, fun i hi => ⟨by rw [hs_n (by omega)]; exact (h7 i hi).1, (h7 i hi).2⟩, h8⟩
theorem hdc.val {G : mv_G} {h : mv_H} {A src n : Nat} {cnt : Int32} {V : Nat → vF} {I : Nat → Nat → Int32} {v : vF} (hd : hdc G h A src cnt V I) (hn : n < 40) (hv : v.2.2.2.1 = nI n) : hdc G (mv_set h (A + 43 + n) (vE v)) A src cnt (updL V n v) I := by
  obtain ⟨h1', ⟨f, h2, h3⟩, ⟨g, h4, h5⟩, h6, h7, h8⟩ := hd
  refine ⟨by rw [hs_n (by omega)]; exact h1', ⟨f, by rw [hs_n (by omega)]; exact h2, h3⟩, ⟨g, by rw [hs_n (by omega)]; exact h4, h5⟩, fun i hi => by rw [hs_n (by omega)]; exact h6 i hi, fun i hi => ?_, h8⟩
  by_cases e : i = n
  · subst e
    rw [updL_s]
    exact ⟨hs_s, hv⟩
  · rw [updL_n e, hs_n (by omega)]
    exact h7 i hi
theorem hdc.inn {G : mv_G} {h : mv_H} {A src n : Nat} {cnt : Int32} {V : Nat → vF} {I : Nat → Nat → Int32} {f : Nat → Int32} (hd : hdc G h A src cnt V I) (hn : n < 40) : hdc G (mv_set h (A + 3 + n) (.inl (mv_t G 1, 40, .inl f))) A src cnt V (updL I n f) := by
  obtain ⟨h1', ⟨f1, h2, h3⟩, ⟨g, h4, h5⟩, h6, h7, h8⟩ := hd
  refine ⟨by rw [hs_n (by omega)]; exact h1', ⟨f1, by rw [hs_n (by omega)]; exact h2, h3⟩, ⟨g, by rw [hs_n (by omega)]; exact h4, h5⟩, fun i hi => ?_, fun i hi => by rw [hs_n (by omega)]; exact h7 i hi, h8⟩
  by_cases e : i = n
  · subst e
    rw [updL_s]
    exact hs_s
  · rw [updL_n e, hs_n (by omega)]
    exact h6 i hi
section DC
variable {l : Launch} {G : mv_G} {d A src n : Nat} {h : mv_H} {cnt : Int32} {V : Nat → vF} {I : Nat → Nat → Int32} {Q : mv_O → mv_H → Prop}
/-- the value of a number -/
theorem vNd {P : Nat → Prop} {x : Int32} (hd : hdc G h A src cnt V I) (hn : n < 40) (hx : x = nI n) (kk : P (A + 43 + n)) : vgb h A 3 0 fun y => vab G h y 4 x P := by
  obtain ⟨h1', ⟨f, h2, h3⟩, _⟩ := hd
  exact vgb_of h1' rfl (vab_of h2 hx hn (by omega) (h3 n hn) kk)
theorem vIn {P : Nat → Prop} {x : Int32} (hd : hdc G h A src cnt V I) (hn : n < 40) (hx : x = nI n) (kk : P (A + 3 + n)) : vgb h A 3 1 fun y => vab G h y 6 x P := by
  obtain ⟨h1', _, ⟨f, h2, h3⟩, _⟩ := hd
  exact vgb_of h1' rfl (vab_of h2 hx hn (by omega) (h3 n hn) kk)
theorem sp_has {k : Nat} {x : Int32} (hG : mv_ok G) (hd : hdc G h A src (nI k) V I) (hk : k ≤ 40) : mv_rq l G mX1_has d 0 (mv_in [.ref A, .int x] 2) [] h (fun o h1 => o = .inl (some (.int (if 0 ≤ x.toInt ∧ x.toInt < k then 1 else 0))) ∧ h = h1) := by
  have ek : (nI k).toInt = k := nI_toInt (by omega)
  refine v_X1_has hG ?_
  unfold w_X1_has
  refine vif_of (fun c => ⟨?_, rfl⟩) (fun c => ?_)
  · rw [if_neg]
    intro z
    rw [Int32.lt_iff_toInt_lt] at c
    have : (0 : Int32).toInt = 0 := rfl
    omega
  · refine vgi_of hd.1 rfl (vif_of (fun c2 => ⟨?_, rfl⟩) (fun c2 => ⟨?_, rfl⟩))
    · rw [if_neg]
      intro z
      rw [Int32.le_iff_toInt_le, ek] at c2
      omega
    · rw [if_pos]
      rw [Int32.le_iff_toInt_le, ek] at c2
      rw [Int32.lt_iff_toInt_lt] at c
      have : (0 : Int32).toInt = 0 := rfl
      omega
theorem sp_restartD {s : Nat} (hG : mv_ok G) (hd : hdc G h A src cnt V I) : mv_rq l G mX1_restart d 0 (mv_in [.ref A, .ref s] 2) [] h (fun o h1 => o = .inl none ∧ mv_set h A (.inr (3, [.ref (A + 1), .ref (A + 2), .ref s, .int (nI 0)])) = h1) := by
  refine v_X1_restart hG ?_
  unfold w_X1_restart
  refine vpu_of hd.1 hd.2.2.2.2.2 (show 2 < 4 by omega) rfl (vpu_of hs_s hd.2.2.2.2.2 (show 3 < 4 by omega) rfl ⟨rfl, ?_⟩)
  rw [mv_set_set]
  rfl
theorem sp_childAt {x : Int32} (hG : mv_ok G) (hd : hdc G h A src cnt V I) (hn : n < 40) (hs : ∀ m : Int32, isB (V n).1 → (V n).2.1 = m → 0 ≤ m.toInt ∧ m.toInt ≤ 40) (hdp : 1 ≤ d) : mv_rq l G mX1_childAt (d + 1) 0 (mv_in [.ref A, .int (nI n), .int x] 3) [] h (fun o h1 => o = .inl (some (.int (if ((V n).1 = 5 ∨ (V n).1 = 6) ∧ 0 ≤ x.toInt ∧ x.toInt < (V n).2.1.toInt then I n x.toNatClampNeg else -1))) ∧ h = h1) := by
  have z0 : (0 : Int32).toInt = 0 := rfl
  refine v_X1_childAt hG ?_
  unfold w_X1_childAt
  have hval := (hd.2.2.2.2.1 n hn).1
  refine vif_of (fun c => ⟨?_, rfl⟩) (fun c => ?_)
  · rw [if_neg]
    intro z
    rw [Int32.lt_iff_toInt_lt] at c
    omega
  · rw [Int32.lt_iff_toInt_lt] at c
    refine vNd hd hn rfl (vob_of hval ?_)
    refine vI_of (sp_childCount hG hval hdp) (vif_of (fun c2 => ⟨?_, rfl⟩) (fun c2 => ?_))
    · rw [if_neg]
      intro z
      have hb : (V n).1 = 5 ∨ (V n).1 = 6 := z.1
      rw [if_pos hb, Int32.le_iff_toInt_le] at c2
      omega
    · by_cases hb : (V n).1 = 5 ∨ (V n).1 = 6
      · rw [if_pos hb, Int32.le_iff_toInt_le] at c2
        have hm := hs _ hb rfl
        have hx : x = nI x.toNatClampNeg := by
          refine Int32.toInt_inj.mp ?_
          have e1 : x.toNatClampNeg = x.toInt.toNat := rfl
          rw [e1, nI_toInt (by omega)]
          omega
        refine vIn hd hn rfl (vai_of (hd.2.2.2.1 n hn) hx (by
          have e1 : x.toNatClampNeg = x.toInt.toNat := rfl
          omega) (by omega) ⟨?_, rfl⟩)
        rw [if_pos ⟨hb, by omega, by omega⟩]
      · exfalso
        rw [if_neg hb, Int32.le_iff_toInt_le] at c2
        omega
end DC
