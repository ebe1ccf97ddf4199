theorem has_1 : ∀ hf hto : Bool, ((bI hf + (if hto = true then 2 else 0)) &&& 1 ≤ 0) = (hf = false) := by decide +kernel
theorem has_2 : ∀ hf hto : Bool, ((bI hf + (if hto = true then 2 else 0)) &&& 2 ≤ 0) = (hto = false) := by decide +kernel
theorem e_slice {t : List Nat} {D : dS} {tq : List Nat} {Q : cQ} {f n N k : Nat} {row : List Nat} {S : md_S} {hf' hto : Bool} {a b st : Int32} (hf : f < 8) (hn : n < D.1) (hN : 3000 ≤ N) (hS : rSt t D tq Q S) (h67 : S.2 67 f = nI n) (hr : rNxt f row S) (hk : k < (qk Q).1) (hkk : (qk Q).2 k = (3, a, b, st, bI hf' + (if hto = true then 2 else 0))) (sa : sm a) (sb : sm b) (ss : sm st) :
    ∃ S', mo_slice N (nI f) (nI k) S = some S' ∧ AD f row (if st ≠ 0 then (strP hf' a.toInt hto b.toInt st.toInt (nki (D.2 n)).length).filterMap (fun p => (nki (D.2 n))[p]?) else []) S S' := by
  obtain ⟨a1, a2⟩ := sa
  obtain ⟨b1, b2⟩ := sb
  obtain ⟨s1, s2⟩ := ss
  obtain ⟨⟨g, hI⟩, _, _⟩ := hS.1.1
  have hlen := kids_len hI hn
  have cK := hS.2.1.2.2.2.2.1 k hk
  rw [hkk] at cK
  have hnk := hS.2.1.2.1.2.2.1
  generalize hL : (nki (D.2 n)).length = len at hlen
  have ea : a = iI a.toInt := iI_e
  have eb : b = iI b.toInt := iI_e
  have es : st = iI st.toInt := iI_e
  generalize a.toInt = A at ea a1 a2
  generalize b.toInt = B at eb b1 b2
  generalize hC : st.toInt = C at es s1 s2
  have z0 : (0 : Int32) = iI 0 := rfl
  unfold mo_slice
  simp only [if_pos (nI_in hf (by omega)), nI_clamp (show f < 2 ^ 31 by omega), h67]
  rw [e_children hS.1 hn (by omega), hL]
  simp only [md_bs, if_pos (nI_in (show k < 170 by omega) (by omega)), nI_clamp (show k < 2 ^ 31 by omega), cK.2.2.2.1, cK.2.2.2.2, has_1]
  have e35 : (if hf' = false then mo_slice_j35 N (nI f) (nI k) (nI len) st 0 S else mo_slice_j35 N (nI f) (nI k) (nI len) st 1 S) = mo_slice_j35 N (nI f) (nI k) (nI len) st (bI hf') S := by cases hf' <;> rfl
  rw [e35]
  unfold mo_slice_j35
  simp only [if_pos (nI_in (show k < 170 by omega) (by omega)), nI_clamp (show k < 2 ^ 31 by omega), cK.2.2.2.2, has_2]
  have e53 : (if hto = false then mo_slice_j53 N (nI f) (nI k) (nI len) st (bI hf') 0 S else mo_slice_j53 N (nI f) (nI k) (nI len) st (bI hf') 1 S) = mo_slice_j53 N (nI f) (nI k) (nI len) st (bI hf') (bI hto) S := by cases hto <;> rfl
  rw [e53]
  -- where it begins
  have eF : mo_slice_j53 N (nI f) (nI k) (nI len) st (bI hf') (bI hto) S = mo_slice_j101 N (nI f) (nI k) (nI len) st (bI hto) (iI (if hf' = true then frB A len else if 0 < C then 0 else (len : Int) - 1)) S := by
    unfold mo_slice_j53 frB
    simp only [if_pos (nI_in (show k < 170 by omega) (by omega)), nI_clamp (show k < 2 ^ 31 by omega), cK.2.1]
    cases hf' with
    | false =>
      rw [if_pos (by rfl)]
      simp only [if_neg (show ¬ (false = true) by decide)]
      rw [es, z0]
      simp only [iI_le (show -2000000 < C by omega) (show C < 2000000 by omega) (show (-2000000 : Int) < 0 by omega) (show (0 : Int) < 2000000 by omega)]
      by_cases c : C ≤ 0
      · rw [if_pos c, if_neg (by omega)]
        congr 1
        rw [iI_n, show (1 : Int32) = iI 1 from rfl, Int32.sub_eq_add_neg, show -(iI 1) = iI (-1) from rfl, iI_a]
        congr 1
      · rw [if_neg c, if_pos (by omega)]
    | true =>
      rw [if_neg (by decide), if_pos rfl, ea, z0]
      simp only [iI_le (show (-2000000 : Int) < 0 by omega) (show (0 : Int) < 2000000 by omega) (show -2000000 < A by omega) (show A < 2000000 by omega)]
      by_cases c : 0 ≤ A
      · rw [if_pos c, if_neg (by omega)]
      · rw [if_neg c, if_pos (by omega), show iI A + nI len = iI ((len : Int) + A) by rw [iI_n, iI_a, Int.add_comm]]
  rw [eF]
  generalize hFr : (if hf' = true then frB A len else if 0 < C then 0 else (len : Int) - 1) = Fr
  have bF : -2000 < Fr ∧ Fr < 2000 := by
    rw [← hFr]
    unfold frB
    split
    · split <;> omega
    · split <;> omega
  have eT : mo_slice_j101 N (nI f) (nI k) (nI len) st (bI hto) (iI Fr) S = mo_slice_j147 N (nI f) (nI len) st (iI Fr) (iI (stE hto B C len)) S := by
    unfold mo_slice_j101 stE frB
    simp only [if_pos (nI_in (show k < 170 by omega) (by omega)), nI_clamp (show k < 2 ^ 31 by omega), cK.2.2.1]
    cases hto with
    | false =>
      rw [if_pos (by rfl)]
      simp only [if_neg (show ¬ (false = true) by decide)]
      rw [es, z0]
      simp only [iI_le (show -2000000 < C by omega) (show C < 2000000 by omega) (show (-2000000 : Int) < 0 by omega) (show (0 : Int) < 2000000 by omega)]
      by_cases c : C ≤ 0
      · rw [if_pos c, if_neg (by omega)]
        rfl
      · rw [if_neg c, if_pos (by omega), ← iI_n (n := len)]
    | true =>
      rw [if_neg (by decide), if_pos rfl, eb, z0]
      simp only [iI_le (show (-2000000 : Int) < 0 by omega) (show (0 : Int) < 2000000 by omega) (show -2000000 < B by omega) (show B < 2000000 by omega)]
      by_cases c : 0 ≤ B
      · rw [if_pos c, if_neg (by omega)]
      · rw [if_neg c, if_pos (by omega), show iI B + nI len = iI ((len : Int) + B) by rw [iI_n, iI_a, Int.add_comm]]
  rw [eT]
  have bT : -2000 < stE hto B C len ∧ stE hto B C len < 2000 := by
    unfold stE frB
    split
    · split <;> omega
    · split <;> omega
  have spec : (strP hf' A hto B C len).filterMap (fun p => (nki (D.2 n))[p]?) = stP D n len (stE hto B C len) C (stF hf' A C len) len := rfl
  generalize stE hto B C len = En at bT spec
  rw [spec]
  unfold mo_slice_j147
  rw [es, z0]
  simp only [iI_le (show -2000000 < C by omega) (show C < 2000000 by omega) (show (-2000000 : Int) < 0 by omega) (show (0 : Int) < 2000000 by omega), iI_le (show (-2000000 : Int) < 0 by omega) (show (0 : Int) < 2000000 by omega) (show -2000000 < Fr by omega) (show Fr < 2000000 by omega)]
  have ne0 : (iI C ≠ iI 0) = (C ≠ 0) := by
    refine propext ⟨fun h z => h (by rw [z]), fun h z => h ?_⟩
    have := congrArg Int32.toInt z
    rw [iI_t (by omega) (by omega), iI_t (by omega) (by omega)] at this
    exact this
  simp only [ne0]
  by_cases c0 : C ≤ 0
  · rw [if_pos c0]
    unfold mo_slice_j197
    rw [z0]
    simp only [iI_le (show (-2000000 : Int) < 0 by omega) (show (0 : Int) < 2000000 by omega) (show -2000000 < C by omega) (show C < 2000000 by omega)]
    by_cases c1 : 0 ≤ C
    · rw [if_pos c1, if_neg (by omega)]
      exact ⟨S, rfl, AD.rf hr⟩
    · rw [if_neg c1, if_pos (show C ≠ 0 by omega)]
      have hfs : stF hf' A C len = fsP len C Fr := by
        unfold stF fsP
        rw [if_neg (by omega), ← hFr]
        simp only [if_neg (show ¬ 0 < C by omega)]
      have hlt := fsP_lt (len := len) (show C < 0 by omega) 2000 (q := Fr) (by omega)
      obtain ⟨S', x1, x2⟩ := e_dnL (N := N) hf hn (by omega) (show C < 0 by omega) (by omega) bT.1 bT.2 2000 N Fr row S hS h67 hr (by omega) (by omega) (by omega) (by omega)
      refine ⟨S', x1, ?_⟩
      rw [hfs, dnL_P (m := len) (m' := 2000) (by omega) (by rw [hL]) hlt hlt (by omega)]
      have := dn_fs (D := D) (n := n) (to := En) (st := C) (by omega) (m := 2000) (q := Fr) (m' := 2000) (by omega) (by rw [hL]; omega)
      rw [hL] at this
      rw [← this]
      exact x2
  · rw [if_neg c0, if_pos (show C ≠ 0 by omega)]
    have hfs : stF hf' A C len = if 0 ≤ Fr then Fr else 0 := by
      unfold stF
      rw [if_pos (by omega), ← hFr]
      cases hf' with
      | false => simp only [if_neg (show ¬ (false = true) by decide), if_pos (show 0 < C by omega)]; rfl
      | true =>
        simp only [if_true, Int.max_def]
    unfold mo_slice_j165
    have e165 : (if 0 ≤ Fr then mo_slice_l167 N N (nI f) (nI len) (iI C) (iI Fr) (iI En) (iI Fr) S else mo_slice_l167 N N (nI f) (nI len) (iI C) (iI Fr) (iI En) (iI 0) S) = mo_slice_l167 N N (nI f) (iI len) (iI C) (iI Fr) (iI En) (iI (if 0 ≤ Fr then Fr else 0)) S := by
      rw [← iI_n (n := len)]
      split <;> rfl
    rw [e165, ← hfs]
    have h0 : 0 ≤ stF hf' A C len ∧ stF hf' A C len < 5000 := by rw [hfs]; split <;> omega
    obtain ⟨S', x1, x2⟩ := e_upL (N := N) (x7 := iI Fr) (len := (len : Int)) hf hn (by omega) (show 0 < C by omega) (by omega) (by omega) (by omega) bT.1 bT.2 len N (stF hf' A C len) row S hS h67 hr h0.1 h0.2 (by omega) (by omega)
    refine ⟨S', x1, ?_⟩
    rw [upL_P (by omega) h0.1]
    exact x2
/-- a selector that is no condition -/
theorem e_select {t : List Nat} {D : dS} {tq : List Nat} {Q : cQ} {f n N k : Nat} {row : List Nat} {S : md_S} {P : Nat → Prop} (hf : f < 8) (hn : n < D.1) (hN : 3000 ≤ N) (hS : rSt t D tq Q S) (h67 : S.2 67 f = nI n) (hr : rNxt f row S) (hk : k < (qk Q).1) (ho : okK tq Q P ((qk Q).2 k)) (h4 : ((qk Q).2 k).1 ≠ 4) :
    ∃ cs S', (∀ x, x ∈ cs → x < D.1) ∧ (∀ rec row, selE tq rec Q ((qk Q).2 k) D n row = e0 (addsR row cs)) ∧ mo_select N (nI f) (nI k) S = some S' ∧ AD f row cs S S' := by
  obtain ⟨⟨g, hI⟩, _, _⟩ := hS.1.1
  have h160 := hS.2.2.2.2.1
  have h40 := hI.1.1
  have hlen := kids_len hI hn
  have cK := hS.2.1.2.2.2.2.1 k hk
  have hnk := hS.2.1.2.1.2.2.1
  have hkd := (hS.1.2.1.2.2.1 n hn).1
  have kin : ∀ j, j ∈ nki (D.2 n) → j < D.1 := fun j hj => by rw [hI.2.2.1 n hn] at hj; exact (kF_m.mp hj).1
  have hk0 := kidsB_0 hI hn
  unfold mo_select
  simp only [if_pos (nI_in hf (by omega)), nI_clamp (show f < 2 ^ 31 by omega), if_pos (nI_in (show k < 170 by omega) (by omega)), nI_clamp (show k < 2 ^ 31 by omega), h67, if_pos (nI_in (show n < 41 by omega) (by omega)), nI_clamp (show n < 2 ^ 31 by omega), hkd, cK.1]
  rcases ho with ⟨h0, p, m, e1, e2, e3, e4⟩ | h1 | ⟨h2, s2⟩ | ⟨h3, s1, s2, s3, s4⟩ | ⟨h4', _⟩
  · rw [if_pos h0]
    have hsel : ∀ rec row, selE tq rec Q ((qk Q).2 k) D n row = e0 (addsR row (if nkd (D.2 n) = 6 then (kidN D n (sl tq p m)).toList else [])) := fun rec row => by
      unfold selE
      rw [if_pos h0, e1, e2, nI_clamp (by omega), nI_clamp (by omega)]
      rfl
    by_cases h6 : nkd (D.2 n) = 6
    · rw [if_pos h6, hS.kid hn (Nat.le_refl _) (by omega) (by omega)]
      simp only [md_bs]
      obtain ⟨S', a, b⟩ := e_selName (N := N) hf hn (by omega) hk (nm := sl tq p m) (Or.inr ⟨p, m, e1, e2, rfl, e4, e3⟩) (kidsB D n n) N row S hS ⟨n, Nat.le_refl _, by omega, rfl⟩ hr (by rw [hk0]; omega)
      refine ⟨(kidN D n (sl tq p m)).toList, S', fun x hx => ?_, fun rec row => by rw [hsel, if_pos h6], a, ?_⟩
      · rw [← kidN_filter hI hn h6] at hx
        exact kin x (List.mem_filter.mp hx).1
      · rw [← kidN_filter hI hn h6, ← hk0]; exact b
    · rw [if_neg h6]
      unfold mo_select_j108 mo_select_j204
      simp only [h0]
      rw [if_neg (by decide), if_neg (by decide), if_neg (by decide)]
      exact ⟨[], S, fun x hx => (nomatch hx), fun rec row => by rw [hsel, if_neg h6], rfl, AD.rf hr⟩
  · rw [if_neg (by rw [h1]; decide)]
    unfold mo_select_j108
    rw [if_pos h1, hS.kid hn (Nat.le_refl _) (by omega) (by omega)]
    simp only [md_bs]
    obtain ⟨S', a, b⟩ := e_selStar (N := N) hf hn (by omega) (kidsB D n n) N row S hS ⟨n, Nat.le_refl _, by omega, rfl⟩ hr (by rw [hk0]; omega)
    refine ⟨nki (D.2 n), S', kin, fun rec row => ?_, a, by rw [← hk0]; exact b⟩
    unfold selE
    rw [if_neg (by rw [h1]; decide), if_pos h1]
    rfl
  · rw [if_neg (by rw [h2]; decide)]
    unfold mo_select_j108 mo_select_j198 mo_select_j204
    rw [if_neg (by rw [h2]; decide), if_pos h2]
    simp only [if_pos (nI_in (show n < 41 by omega) (by omega)), nI_clamp (show n < 2 ^ 31 by omega), hkd, if_pos (nI_in (show k < 170 by omega) (by omega)), nI_clamp (show k < 2 ^ 31 by omega), cK.2.1]
    have ea : ((qk Q).2 k).2.1 = iI ((qk Q).2 k).2.1.toInt := iI_e
    have hsel : ∀ rec row, selE tq rec Q ((qk Q).2 k) D n row = e0 (addsR row (if nkd (D.2 n) = 5 then kidI D n (frB ((qk Q).2 k).2.1.toInt (nki (D.2 n)).length) else [])) := fun rec row => by
      unfold selE
      rw [if_neg (by rw [h2]; decide), if_neg (by rw [h2]; decide), if_pos h2]
      rfl
    obtain ⟨s5, s6⟩ := s2
    generalize ((qk Q).2 k).2.1.toInt = A at ea hsel s5 s6
    by_cases h5 : nkd (D.2 n) = 5
    · rw [if_pos h5, ea]
      have z0 : (0 : Int32) = iI 0 := rfl
      rw [z0]
      simp only [iI_le (show (-2000000 : Int) < 0 by omega) (show (0 : Int) < 2000000 by omega) (show -2000000 < A by omega) (show A < 2000000 by omega)]
      rw [e_children hS.1 hn (by omega)]
      simp only [md_bs]
      have ej : (if 0 ≤ A then md_c (mo_addPlace N (nI f) (iI A) S) fun S198 => some S198 else md_c (mo_addPlace N (nI f) (iI A + nI (nki (D.2 n)).length) S) fun S198 => some S198) = mo_addPlace N (nI f) (iI (frB A (nki (D.2 n)).length)) S := by
        unfold frB
        by_cases c : 0 ≤ A
        · rw [if_pos c, if_neg (by omega), md_ci]
        · rw [if_neg c, if_pos (by omega), md_ci, show iI A + nI (nki (D.2 n)).length = iI (((nki (D.2 n)).length : Int) + A) by rw [iI_n, iI_a, Int.add_comm]]
      rw [ej]
      have bq : -2000000 < frB A (nki (D.2 n)).length ∧ frB A (nki (D.2 n)).length < 2000000 := by
        unfold frB
        split <;> omega
      obtain ⟨S', a, b⟩ := e_addPlace (N := N) hf hn (by omega) hS h67 hr bq.1 bq.2
      refine ⟨kidI D n (frB A (nki (D.2 n)).length), S', fun x hx => ?_, fun rec row => by rw [hsel, if_pos h5], a, b⟩
      unfold kidI at hx
      split at hx
      · cases hx
      · have := Option.mem_toList.mp hx
        exact kin x (List.mem_of_getElem? this)
    · rw [if_neg h5]
      rw [if_neg (by rw [h2]; decide)]
      exact ⟨[], S, fun x hx => (nomatch hx), fun rec row => by rw [hsel, if_neg h5], rfl, AD.rf hr⟩
  · rw [if_neg (by rw [h3]; decide)]
    unfold mo_select_j108 mo_select_j204
    rw [if_neg (by rw [h3]; decide), if_neg (by rw [h3]; decide), if_pos h3]
    simp only [if_pos (nI_in (show n < 41 by omega) (by omega)), nI_clamp (show n < 2 ^ 31 by omega), hkd]
    obtain ⟨hf', hto, ehs⟩ : ∃ hf' hto : Bool, ((qk Q).2 k).2.2.2.2 = bI hf' + (if hto = true then 2 else 0) := by
      rcases s4 with z | z | z | z
      · exact ⟨false, false, z⟩
      · exact ⟨true, false, z⟩
      · exact ⟨false, true, z⟩
      · exact ⟨true, true, z⟩
    have hkk : (qk Q).2 k = (3, ((qk Q).2 k).2.1, ((qk Q).2 k).2.2.1, ((qk Q).2 k).2.2.2.1, bI hf' + (if hto = true then 2 else 0)) := by rw [← ehs, ← h3]
    have hsel : ∀ rec row, selE tq rec Q ((qk Q).2 k) D n row = e0 (addsR row (if nkd (D.2 n) = 5 ∧ ((qk Q).2 k).2.2.2.1 ≠ 0 then (strP hf' ((qk Q).2 k).2.1.toInt hto ((qk Q).2 k).2.2.1.toInt ((qk Q).2 k).2.2.2.1.toInt (nki (D.2 n)).length).filterMap (fun p => (nki (D.2 n))[p]?) else [])) := fun rec row => by
      unfold selE
      rw [if_neg (by rw [h3]; decide), if_neg (by rw [h3]; decide), if_neg (by rw [h3]; decide), if_pos h3, ehs]
      cases hf' <;> cases hto <;> rfl
    by_cases h5 : nkd (D.2 n) = 5
    · rw [if_pos h5, md_ci]
      obtain ⟨S', a, b⟩ := e_slice (N := N) hf hn hN hS h67 hr hk hkk s1 s2 s3
      refine ⟨_, S', fun x hx => ?_, fun rec row => ?_, a, b⟩
      · split at hx
        · obtain ⟨p, _, hp⟩ := List.mem_filterMap.mp hx
          exact kin x (List.mem_of_getElem? hp)
        · cases hx
      · rw [hsel]
        congr 2
        by_cases c : ((qk Q).2 k).2.2.2.1 ≠ 0
        · rw [if_pos ⟨h5, c⟩, if_pos c]
        · rw [if_neg (fun z => c z.2), if_neg c]
    · rw [if_neg h5]
      exact ⟨[], S, fun x hx => (nomatch hx), fun rec row => by rw [hsel, if_neg (fun z => h5 z.1)], rfl, AD.rf hr⟩
  · exact absurd h4' h4
