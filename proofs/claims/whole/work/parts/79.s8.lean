theorem bI_b {b : Bool} : md_bo (bI b) := by
  cases b
  · exact Or.inl rfl
  · exact Or.inr rfl
theorem bI_0 {b : Bool} : (bI b = 0) = (b = false) := by cases b <;> simp [bI]
theorem e_singL {Q : cQ} {S : md_S} (hC : rC Q S) (N : Nat) : ∀ (l : List Nat) (f : Nat) (x : Int32) (b : Bool), chn (S.2 37) x l → (∀ s, s ∈ l → s < (qg Q).1) → l.length + 1 ≤ f → mo_isSingle_l9 N f (bI b) x S = some (bI (b && l.all (sgl Q)), S) := by
  obtain ⟨⟨a1, a2, a3, a4, a5⟩, ⟨b1, b2, b3, b4, b5⟩, c1, c2, c3, c4, d1, d2, d3⟩ := hC
  intro l
  induction l with
  | nil =>
    intro f x b hx hl hf
    obtain ⟨f, rfl⟩ : ∃ k, f = k + 1 := ⟨f - 1, by omega⟩
    rw [mo_isSingle_l9, if_pos (show x = -1 from hx), if_pos bI_b]
    simp
  | cons s r ih =>
    intro f x b hx hl hf
    obtain ⟨f, rfl⟩ : ∃ k, f = k + 1 := ⟨f - 1, by omega⟩
    have hs := hl s (by simp)
    obtain ⟨rfl, hr⟩ := hx
    have step : ∀ b' : Bool, mo_isSingle_l9 N f (bI b') (S.2 37 s) S = some (bI (b' && r.all (sgl Q)), S) := fun b' => ih f _ b' hr (fun y hy => hl y (by simp [hy])) (by simp at hf; omega)
    have s0 : mo_isSingle_l9 N f 0 (S.2 37 s) S = some (bI (false && r.all (sgl Q)), S) := step false
    have s1 : mo_isSingle_l9 N f 1 (S.2 37 s) S = some (bI (true && r.all (sgl Q)), S) := step true
    rw [mo_isSingle_l9, if_neg (nI_m1 (by omega))]
    simp only [if_pos (nI_in (show s < 170 by omega) (by omega)), nI_clamp (show s < 2 ^ 31 by omega), (c2 s hs).1, (c2 s hs).2.2]
    cases b with
    | false =>
      rw [if_pos (by rfl), s0]
      simp
    | true =>
      rw [if_neg (by decide)]
      rw [List.all_cons]
      have hlen : ((qg Q).2.2 s).length ≤ 170 := by
        have hp := (d2 s hs).2.2.1
        have hb := (d2 s hs).2.2.2.1
        have : ∀ (l : List Nat) (m : Nat), l.Pairwise (· < ·) → (∀ x, x ∈ l → x < m) → l.length ≤ m := by
          intro l
          induction l with
          | nil => intro m _ _; simp
          | cons y q ihq =>
            intro m h1 h2
            have h3 := List.pairwise_cons.mp h1
            have h4 : ∀ x, x ∈ q.map (fun z => z - 1) → x < m - 1 := fun x hx => by
              obtain ⟨z, hz, rfl⟩ := List.mem_map.mp hx
              have := h2 z (by simp [hz])
              have := h3.1 z hz
              omega
            have h5 : (q.map (fun z => z - 1)).Pairwise (· < ·) := by
              rw [List.pairwise_map]
              refine h3.2.imp_of_mem fun {a b} ha hb hab => ?_
              have := h3.1 a ha
              omega
            have hq : q.length ≤ m - 1 := by
              have : ∀ (q : List Nat) (m : Nat), q.Pairwise (· < ·) → (∀ x, x ∈ q → x < m) → (∀ (l : List Nat), l.length = q.length → l.Pairwise (· < ·) → (∀ x, x ∈ l → x < m) → l.length ≤ m) → q.length ≤ m := fun q m u v w => w q rfl u v
              have hlen : (q.map (fun z => z - 1)).length = q.length := List.length_map _
              have key : ∀ (k : Nat) (l : List Nat), l.length = k → ∀ m, l.Pairwise (· < ·) → (∀ x, x ∈ l → x < m) → k ≤ m := by
                intro k
                induction k with
                | zero => intro l _ m _ _; exact Nat.zero_le _
                | succ k ihk =>
                  intro l hl m u v
                  cases l with
                  | nil => cases hl
                  | cons a l' =>
                    have u2 := List.pairwise_cons.mp u
                    have : k ≤ m - 1 := by
                      refine ihk (l'.map (fun z => z - 1)) (by simp at hl ⊢; exact hl) (m - 1) ?_ ?_
                      · rw [List.pairwise_map]
                        refine u2.2.imp_of_mem fun {x y} hx hy hxy => ?_
                        have := u2.1 x hx
                        omega
                      · intro x hx
                        obtain ⟨z, hz, rfl⟩ := List.mem_map.mp hx
                        have := v z (by simp [hz])
                        have := u2.1 z hz
                        omega
                    have := v a (by simp)
                    omega
              have := key _ _ hlen (m - 1) h5 h4
              exact this
            have := h2 y (by simp)
            simp; omega
        exact Nat.le_trans (this _ _ hp hb) b3
      by_cases bw : ((qg Q).2.1 s).1 = true
      · rw [bw, if_neg (by decide), s0]
        simp [sgl, bw]
      · have bw' : ((qg Q).2.1 s).1 = false := by simpa using bw
        rw [bw', if_pos (by rfl)]
        by_cases h1 : ((qg Q).2.2 s).length = 1
        · rw [if_pos (by rw [h1]; rfl)]
          obtain ⟨k, hk⟩ := List.length_eq_one_iff.mp h1
          have hch := (d2 s hs).1
          rw [hk] at hch
          have hkn := (d2 s hs).2.2.2.1 k (by rw [hk]; simp)
          have e38 : S.2 38 s = nI k := hch.1
          simp only [e38, if_pos (nI_in (show k < 170 by omega) (by omega)), nI_clamp (show k < 2 ^ 31 by omega), (c3 k hkn).1]
          by_cases k0 : ((qk Q).2 k).1 = 0
          · rw [if_pos k0, s1]
            simp [sgl, bw', hk, k0]
          · rw [if_neg k0]
            by_cases k2 : ((qk Q).2 k).1 = 2
            · rw [if_pos k2, s1]
              simp [sgl, bw', hk, k2]
            · have hz : sgl Q s = false := by
                unfold sgl
                rw [hk]
                have z0 : (((qk Q).2 k).1 == 0) = false := beq_eq_false_iff_ne.mpr k0
                have z2 : (((qk Q).2 k).1 == 2) = false := beq_eq_false_iff_ne.mpr k2
                simp only [List.all_cons, z0, z2, Bool.or_self, Bool.false_and, Bool.and_false]
              rw [if_neg k2, s0, hz]
              rfl
        · rw [if_neg (show ¬ nI ((qg Q).2.2 s).length = 1 from fun z => h1 ((nI_eq (a := ((qg Q).2.2 s).length) (b := 1) (by omega) (by omega)).mp z)), s0]
          have hz : sgl Q s = false := by
            unfold sgl
            have z1 : (((qg Q).2.2 s).length == 1) = false := beq_eq_false_iff_ne.mpr h1
            simp only [z1, Bool.and_false, Bool.false_and]
          rw [hz]
          rfl
theorem e_must {t : List Nat} {p : Nat} {Q : cQ} {td : tdL} {ne a N : Nat} {S : md_S} (h : rR t p Q td ne S) (ha : a < (qp Q).1) (hl : ((qp Q).2.2 a).length ≤ 160) (hN : 161 ≤ N) :
    (((qp Q).2.2 a).all (sgl Q) = true → mo_mustBeSingle N (nI a) S = some S) ∧
    (((qp Q).2.2 a).all (sgl Q) = false → ∃ S', mo_mustBeSingle N (nI a) S = some S' ∧ S'.1 7 = nI ((qp Q).2.1 a).1 ∧ rF [7] S S') := by
  have hC := h.2.1
  have h100 := hC.2.1.1
  unfold mo_mustBeSingle mo_isSingle
  simp only [if_pos (nI_in (show a < 100 by omega) (by omega)), nI_clamp (show a < 2 ^ 31 by omega)]
  have hch := hC.2.2.2.2.2.2.1 a ha
  have := e_singL hC N ((qp Q).2.2 a) N (S.2 34 a) true hch.1 hch.2.2.2.1 (by omega)
  rw [show (1 : Int32) = bI true from rfl, this]
  simp only [md_bs, Bool.true_and]
  refine ⟨fun e => ?_, fun e => ?_⟩
  · rw [e, if_neg (by decide)]
  · rw [e, if_pos (by rfl), e_fail h.1.2.2]
    refine ⟨_, rfl, ?_, rF.rf.p (by decide)⟩
    rw [md_p1, if_pos rfl]
    exact (hC.2.2.1 a ha).1
