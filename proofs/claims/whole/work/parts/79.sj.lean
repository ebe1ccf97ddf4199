def iI (q : Int) : Int32 := Int32.ofInt q
theorem iI_t {q : Int} (h1 : -2000000 < q) (h2 : q < 2000000) : (iI q).toInt = q := by
  unfold iI
  rw [Int32.toInt_ofInt_of_le (by omega) (by omega)]
theorem iI_e {x : Int32} : x = iI x.toInt := (Int32.ofInt_toInt x).symm
theorem iI_a {a b : Int} : iI a + iI b = iI (a + b) := (Int32.ofInt_add a b).symm
theorem iI_le {a b : Int} (h1 : -2000000 < a) (h2 : a < 2000000) (h3 : -2000000 < b) (h4 : b < 2000000) : (iI a ≤ iI b) = (a ≤ b) := by rw [Int32.le_iff_toInt_le, iI_t h1 h2, iI_t h3 h4]
theorem iI_lt {a b : Int} (h1 : -2000000 < a) (h2 : a < 2000000) (h3 : -2000000 < b) (h4 : b < 2000000) : (iI a < iI b) = (a < b) := by rw [Int32.lt_iff_toInt_lt, iI_t h1 h2, iI_t h3 h4]
theorem iI_n {n : Nat} : nI n = iI n := by
  unfold nI iI
  exact (Int32.ofInt_eq_ofNat).symm
theorem iI_nn {q : Int} (h : 0 ≤ q) : iI q = nI q.toNat := by
  rw [iI_n]; congr 1; omega
/-- the child at a place, if there is one -/
def kidI (D : dS) (n : Nat) (q : Int) : List Nat := if q < 0 then [] else ((nki (D.2 n))[q.toNat]?).toList
theorem e_addPlace {t : List Nat} {D : dS} {tq : List Nat} {Q : cQ} {f n N : Nat} {row : List Nat} {S : md_S} {q : Int} (hf : f < 8) (hn : n < D.1) (hN : 161 ≤ N) (hS : rSt t D tq Q S) (h67 : S.2 67 f = nI n) (hr : rNxt f row S) (q1 : -2000000 < q) (q2 : q < 2000000) : ∃ S', mo_addPlace N (nI f) (iI q) S = some S' ∧ AD f row (kidI D n q) S S' := by
  unfold mo_addPlace kidI
  simp only [if_pos (nI_in hf (by omega)), nI_clamp (show f < 2 ^ 31 by omega), h67]
  by_cases h0 : q < 0
  · rw [e_childAtN (show iI q < 0 by rw [show (0 : Int32) = iI 0 from rfl, iI_lt q1 q2 (by omega) (by omega)]; exact h0) hN, if_pos h0]
    simp only [md_bs, if_true]
    exact ⟨S, rfl, AD.rf hr⟩
  · rw [if_neg h0, iI_nn (by omega), e_childAt hS.1 hn (by omega) hN]
    simp only [md_bs]
    cases hk : (nki (D.2 n))[q.toNat]? with
    | none =>
      rw [if_pos (by rfl)]
      exact ⟨S, rfl, AD.rf hr⟩
    | some c =>
      have h40 : D.1 ≤ 40 := hS.1.2.1.2.1
      obtain ⟨⟨g, hI⟩, _, _⟩ := hS.1.1
      have hc : c < D.1 := by
        have := List.mem_of_getElem? hk
        rw [hI.2.2.1 n hn] at this
        exact (kF_m.mp this).1
      rw [if_neg (show ¬ oI (some c) = -1 from nI_m1 (by omega))]
      obtain ⟨S1, d1, d2⟩ := e_add (c := c) hf hr
      rw [show oI (some c) = nI c from rfl, d1]
      exact ⟨S1, rfl, d2⟩
def upL (D : dS) (n : Nat) (len to st : Int) : Nat → Int → List Nat
  | 0, _ => []
  | m + 1, q => if q < to ∧ q < len then kidI D n q ++ upL D n len to st m (q + st) else []
theorem e_upL {t : List Nat} {D : dS} {tq : List Nat} {Q : cQ} {f n N : Nat} {x7 : Int32} {len to st : Int} (hf : f < 8) (hn : n < D.1) (hN : 161 ≤ N) (hst : 0 < st) (hst2 : st < 1000) (hlen : len ≤ 40) (hlen0 : 0 ≤ len) (hto : -2000 < to) (hto2 : to < 2000) : ∀ (m fu : Nat) (q : Int) (row : List Nat) (S : md_S), rSt t D tq Q S → S.2 67 f = nI n → rNxt f row S → 0 ≤ q → q < 5000 → len ≤ q + m → m + 1 ≤ fu → ∃ S', mo_slice_l167 N fu (nI f) (iI len) (iI st) x7 (iI to) (iI q) S = some S' ∧ AD f row (upL D n len to st m q) S S' := by
  have j197 : ∀ S, mo_slice_j197 N (nI f) (iI st) x7 (iI to) S = some S := fun S => by
    unfold mo_slice_j197
    rw [if_pos (show 0 ≤ iI st by rw [show (0 : Int32) = iI 0 from rfl, iI_le (by omega) (by omega) (by omega) (by omega)]; omega)]
  intro m
  induction m with
  | zero =>
    intro fu q row S hS h67 hr q0 q5 hq hfu
    obtain ⟨fu, rfl⟩ : ∃ k, fu = k + 1 := ⟨fu - 1, by omega⟩
    rw [mo_slice_l167, j197]
    refine ⟨S, ?_, AD.rf hr⟩
    by_cases c1 : to ≤ q
    · rw [if_pos (by rw [iI_le (by omega) (by omega) (by omega) (by omega)]; exact c1)]
    · rw [if_neg (by rw [iI_le (by omega) (by omega) (by omega) (by omega)]; exact c1), if_pos (by rw [iI_le (by omega) (by omega) (by omega) (by omega)]; omega)]
  | succ m ih =>
    intro fu q row S hS h67 hr q0 q5 hq hfu
    obtain ⟨fu, rfl⟩ : ∃ k, fu = k + 1 := ⟨fu - 1, by omega⟩
    rw [mo_slice_l167, j197, upL]
    by_cases c1 : q < to ∧ q < len
    · rw [if_pos c1, if_neg (by rw [iI_le (by omega) (by omega) (by omega) (by omega)]; omega), if_neg (by rw [iI_le (by omega) (by omega) (by omega) (by omega)]; omega)]
      obtain ⟨S1, a1, a2⟩ := e_addPlace hf hn hN hS h67 hr (q := q) (by omega) (by omega)
      rw [a1]
      simp only [md_cs]
      rw [iI_a]
      obtain ⟨S2, b1, b2⟩ := ih fu (q + st) _ S1 (a2.st hS) (by rw [(a2.2.2.1 67 (by decide)).2]; exact h67) a2.1 (by omega) (by omega) (by omega) (by omega)
      exact ⟨S2, b1, a2.tr b2⟩
    · rw [if_neg c1]
      refine ⟨S, ?_, AD.rf hr⟩
      by_cases c2 : to ≤ q
      · rw [if_pos (by rw [iI_le (by omega) (by omega) (by omega) (by omega)]; exact c2)]
      · rw [if_neg (by rw [iI_le (by omega) (by omega) (by omega) (by omega)]; exact c2), if_pos (by rw [iI_le (by omega) (by omega) (by omega) (by omega)]; omega)]
def dnL (D : dS) (n : Nat) (to st : Int) : Nat → Int → List Nat
  | 0, _ => []
  | m + 1, q => if to < q ∧ 0 ≤ q then kidI D n q ++ dnL D n to st m (q + st) else []
theorem e_dnL {t : List Nat} {D : dS} {tq : List Nat} {Q : cQ} {f n N : Nat} {to st : Int} (hf : f < 8) (hn : n < D.1) (hN : 161 ≤ N) (hst : st < 0) (hst2 : -1000 < st) (hto : -2000 < to) (hto2 : to < 2000) : ∀ (m fu : Nat) (q : Int) (row : List Nat) (S : md_S), rSt t D tq Q S → S.2 67 f = nI n → rNxt f row S → -5000 < q → q < 5000 → q < m → m + 1 ≤ fu → ∃ S', mo_slice_l206 N fu (nI f) (iI st) (iI to) (iI q) S = some S' ∧ AD f row (dnL D n to st m q) S S' := by
  intro m
  induction m with
  | zero =>
    intro fu q row S hS h67 hr q0 q5 hq hfu
    obtain ⟨fu, rfl⟩ : ∃ k, fu = k + 1 := ⟨fu - 1, by omega⟩
    rw [mo_slice_l206]
    refine ⟨S, ?_, AD.rf hr⟩
    by_cases c1 : q ≤ to
    · rw [if_pos (by rw [iI_le (by omega) (by omega) (by omega) (by omega)]; exact c1)]
    · rw [if_neg (by rw [iI_le (by omega) (by omega) (by omega) (by omega)]; exact c1), if_pos (by rw [show (0 : Int32) = iI 0 from rfl, iI_lt (by omega) (by omega) (by omega) (by omega)]; omega)]
  | succ m ih =>
    intro fu q row S hS h67 hr q0 q5 hq hfu
    obtain ⟨fu, rfl⟩ : ∃ k, fu = k + 1 := ⟨fu - 1, by omega⟩
    rw [mo_slice_l206, dnL]
    by_cases c1 : to < q ∧ 0 ≤ q
    · rw [if_pos c1, if_neg (by rw [iI_le (by omega) (by omega) (by omega) (by omega)]; omega), if_neg (by rw [show (0 : Int32) = iI 0 from rfl, iI_lt (by omega) (by omega) (by omega) (by omega)]; omega)]
      obtain ⟨S1, a1, a2⟩ := e_addPlace hf hn hN hS h67 hr (q := q) (by omega) (by omega)
      rw [a1]
      simp only [md_cs]
      rw [iI_a]
      obtain ⟨S2, b1, b2⟩ := ih fu (q + st) _ S1 (a2.st hS) (by rw [(a2.2.2.1 67 (by decide)).2]; exact h67) a2.1 (by omega) (by omega) (by omega) (by omega)
      exact ⟨S2, b1, a2.tr b2⟩
    · rw [if_neg c1]
      refine ⟨S, ?_, AD.rf hr⟩
      by_cases c2 : q ≤ to
      · rw [if_pos (by rw [iI_le (by omega) (by omega) (by omega) (by omega)]; exact c2)]
      · rw [if_neg (by rw [iI_le (by omega) (by omega) (by omega) (by omega)]; exact c2), if_pos (by rw [show (0 : Int32) = iI 0 from rfl, iI_lt (by omega) (by omega) (by omega) (by omega)]; omega)]
/-! the places of a stretch, as they are met -/
def stP (D : dS) (n : Nat) (len en st : Int) (q : Int) (m : Nat) : List Nat := (List.range m).filterMap (fun (i : Nat) => (fun (p : Int) => if (if 0 < st then p < en else en < p) ∧ 0 ≤ p ∧ p < len then some p.toNat else none) (q + i * st)) |>.filterMap (fun p => (nki (D.2 n))[p]?)
theorem stP_s {D : dS} {n : Nat} {len en st q : Int} {m : Nat} : stP D n len en st q (m + 1) = (if (if 0 < st then q < en else en < q) ∧ 0 ≤ q ∧ q < len then ((nki (D.2 n))[q.toNat]?).toList else []) ++ stP D n len en st (q + st) m := by
  unfold stP
  rw [List.range_succ_eq_map, List.filterMap_cons, List.filterMap_map]
  have e0 : q + ((0 : Nat) : Int) * st = q := by simp
  have e1 : ∀ i : Nat, q + ((i + 1 : Nat) : Int) * st = (q + st) + (i : Int) * st := fun i => by
    rw [Int.natCast_add, Int.add_mul]; simp; omega
  have ec : (List.range m).filterMap ((fun (i : Nat) => (fun (p : Int) => if (if 0 < st then p < en else en < p) ∧ 0 ≤ p ∧ p < len then some p.toNat else none) (q + i * st)) ∘ Nat.succ) = (List.range m).filterMap (fun (i : Nat) => (fun (p : Int) => if (if 0 < st then p < en else en < p) ∧ 0 ≤ p ∧ p < len then some p.toNat else none) (q + st + i * st)) := by
    congr 1
    funext i
    show (fun (p : Int) => if (if 0 < st then p < en else en < p) ∧ 0 ≤ p ∧ p < len then some p.toNat else none) (q + ((i + 1 : Nat) : Int) * st) = _
    rw [e1]
  rw [ec]
  simp only [e0]
  by_cases c : (if 0 < st then q < en else en < q) ∧ 0 ≤ q ∧ q < len
  · rw [if_pos c, if_pos c]
    simp only [List.filterMap_cons]
    cases (nki (D.2 n))[q.toNat]? <;> rfl
  · rw [if_neg c, if_neg c]
    rfl
theorem upL_P {D : dS} {n : Nat} {len to st : Int} (hst : 0 < st) : ∀ {m : Nat} {q : Int}, 0 ≤ q → stP D n len to st q m = upL D n len to st m q
  | 0, q, _ => rfl
  | m + 1, q, h0 => by
    rw [stP_s, upL]
    have stop : ∀ (m : Nat) (q : Int), 0 ≤ q → ¬ (q < to ∧ q < len) → stP D n len to st q m = [] := by
      intro m
      induction m with
      | zero => intro q _ _; rfl
      | succ m ih =>
        intro q h0 hc
        rw [stP_s, if_neg (by rw [if_pos hst]; omega), List.nil_append]
        exact ih (q + st) (by omega) (by omega)
    by_cases c : q < to ∧ q < len
    · rw [if_pos c, if_pos (by rw [if_pos hst]; omega), upL_P hst (by omega)]
      unfold kidI
      rw [if_neg (by omega)]
    · rw [if_neg c, if_neg (by rw [if_pos hst]; omega), List.nil_append]
      exact stop m (q + st) (by omega) (by omega)
theorem dnL_P {D : dS} {n : Nat} {len to st : Int} (hst : st < 0) (hlen : len = (nki (D.2 n)).length) : ∀ {m m' : Nat} {q : Int}, q < len → q < m → q < m' → stP D n len to st q m = dnL D n to st m' q := by
  have stop : ∀ (m : Nat) (q : Int), ¬ (to < q ∧ 0 ≤ q) → stP D n len to st q m = [] := by
    intro m
    induction m with
    | zero => intro q _; rfl
    | succ m ih =>
      intro q hc
      rw [stP_s, if_neg (by rw [if_neg (by omega)]; omega), List.nil_append]
      exact ih (q + st) (by omega)
  intro m
  induction m with
  | zero =>
    intro m' q h1 h2 h3
    have : dnL D n to st m' q = [] := by
      cases m' with
      | zero => rfl
      | succ m' => rw [dnL, if_neg (by omega)]
    rw [this]; rfl
  | succ m ih =>
    intro m' q h1 h2 h3
    cases m' with
    | zero => exact stop (m + 1) q (by omega)
    | succ m' =>
      by_cases c : to < q ∧ 0 ≤ q
      · rw [stP_s, dnL, if_pos c, if_pos (by rw [if_neg (by omega)]; omega), ih (m' := m') (by omega) (by omega) (by omega)]
        unfold kidI
        rw [if_neg (by omega)]
      · rw [stop (m + 1) q c, dnL, if_neg c]
theorem dnL_f {D : dS} {n : Nat} {to st : Int} (hst : st < 0) : ∀ {m m' : Nat} {q : Int}, q < m → q < m' → dnL D n to st m q = dnL D n to st m' q := by
  intro m
  induction m with
  | zero =>
    intro m' q h1 h2
    cases m' with
    | zero => rfl
    | succ m' => rw [dnL, dnL, if_neg (by omega)]
  | succ m ih =>
    intro m' q h1 h2
    cases m' with
    | zero => rw [dnL, dnL, if_neg (by omega)]
    | succ m' =>
      rw [dnL, dnL]
      by_cases c : to < q ∧ 0 ≤ q
      · rw [if_pos c, if_pos c, ih (m' := m') (by omega) (by omega)]
      · rw [if_neg c, if_neg c]
def fsP (len : Nat) (st q : Int) : Int := if q < len then q else q + ((q - len) / (-st) + 1) * st
theorem fsP_s {len : Nat} {st q : Int} (hst : st < 0) (h : ¬ q < len) : fsP len st q = fsP len st (q + st) := by
  unfold fsP
  rw [if_neg h]
  have e : (q - len) = (q + st - len) + (-st) * 1 := by omega
  by_cases c : q + st < len
  · rw [if_pos c]
    have : (q - len) / (-st) = 0 := Int.ediv_eq_zero_of_lt (by omega) (by omega)
    rw [this]; omega
  · rw [if_neg c]
    have : (q - len) / (-st) = (q + st - len) / (-st) + 1 := by
      rw [e, Int.add_mul_ediv_left _ _ (by omega)]
    rw [this, Int.add_mul]
    omega
theorem fsP_lt {len : Nat} {st : Int} (hst : st < 0) : ∀ (m : Nat) {q : Int}, q < m → fsP len st q < len := by
  intro m
  induction m with
  | zero =>
    intro q h
    unfold fsP
    rw [if_pos (by omega)]; omega
  | succ m ih =>
    intro q h
    by_cases c : q < len
    · unfold fsP
      rw [if_pos c]; exact c
    · rw [fsP_s hst c]
      exact ih (by omega)
theorem dn_fs {D : dS} {n : Nat} {to st : Int} (hst : st < 0) : ∀ {m : Nat} {q : Int} {m' : Nat}, q < m → fsP (nki (D.2 n)).length st q < m' → dnL D n to st m q = dnL D n to st m' (fsP (nki (D.2 n)).length st q) := by
  intro m
  induction m with
  | zero =>
    intro q m' h1 h2
    have : fsP (nki (D.2 n)).length st q = q := by unfold fsP; rw [if_pos (by omega)]
    rw [this] at h2 ⊢
    exact dnL_f hst h1 h2
  | succ m ih =>
    intro q m' h1 h2
    by_cases c : q < (nki (D.2 n)).length
    · have : fsP (nki (D.2 n)).length st q = q := by unfold fsP; rw [if_pos c]
      rw [this] at h2 ⊢
      exact dnL_f hst h1 h2
    · rw [fsP_s hst c] at h2 ⊢
      rw [← ih (q := q + st) (m' := m') (by omega) h2, dnL]
      by_cases c2 : to < q ∧ 0 ≤ q
      · rw [if_pos c2]
        unfold kidI
        rw [if_neg (by omega), List.getElem?_eq_none (by omega)]
        rfl
      · rw [if_neg c2]
        cases m with
        | zero => rfl
        | succ m => rw [dnL, if_neg (by omega)]
