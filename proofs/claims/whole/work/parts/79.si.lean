/-! the reference finds -/
def KM : List Nat := [59, 60, 61, 62, 63, 64, 65, 66, 67, 68, 69, 70, 71, 72, 73, 74, 75, 76, 77, 78, 79, 80, 81, 82, 83]
def rSt (t : List Nat) (D : dS) (tq : List Nat) (Q : cQ) (S : md_S) : Prop := rE t D S ∧ rC Q S ∧ rA 32 tq S
theorem rSt.f {t : List Nat} {D : dS} {tq : List Nat} {Q : cQ} {S S' : md_S} {K : List Nat} (h : rSt t D tq Q S) (f : rF K S S') (hk : ∀ k, k ∈ K → 59 ≤ k) : rSt t D tq Q S' :=
  ⟨h.1.f f (fun k h1 h2 z => by have := hk k z; omega), h.2.1.f f (fun k h1 h2 _ _ z => by have := hk k z; omega), h.2.2.f f (fun z => by have := hk _ z; omega)⟩
/-- what the frames below f keep -/
def low (f : Nat) (S S' : md_S) : Prop := (∀ k, 62 ≤ k → k ≤ 73 → ∀ i, i < f → S'.2 k i = S.2 k i) ∧ ∀ i, i < 300 * f → S'.2 74 i = S.2 74 i ∧ S'.2 75 i = S.2 75 i
theorem low.rf {f : Nat} {S : md_S} : low f S S := ⟨fun _ _ _ _ _ => rfl, fun _ _ => ⟨rfl, rfl⟩⟩
theorem low.tr {f : Nat} {A B C : md_S} (h : low f A B) (k : low f B C) : low f A C := ⟨fun q a b i hi => (k.1 q a b i hi).trans (h.1 q a b i hi), fun i hi => ⟨(k.2 i hi).1.trans (h.2 i hi).1, (k.2 i hi).2.trans (h.2 i hi).2⟩⟩
theorem low.mn {f g : Nat} {A B : md_S} (h : low f A B) (hg : g ≤ f) : low g A B := ⟨fun q a b i hi => h.1 q a b i (by omega), fun i hi => h.2 i (by omega)⟩
theorem low.p {f : Nat} {A B : md_S} {k : Nat} {v : Int32} (h : low f A B) : low f A (md_p B k v) := h
theorem low.w {f : Nat} {A B : md_S} {k j : Nat} {v : Int32} (h : low f A B) (hj : (k ≠ 74 ∧ k ≠ 75 ∧ f ≤ j) ∨ 300 * f ≤ j) : low f A (md_w B k j v) := by
  refine ⟨fun q a b i hi => ?_, fun i hi => ⟨?_, ?_⟩⟩
  · rw [← h.1 q a b i hi]
    exact md_wn (by omega)
  · rw [← (h.2 i hi).1]
    by_cases e : i = j
    · subst e
      rcases hj with ⟨h1, _, _⟩ | h1
      · exact md_w_k (fun z => h1 z.symm)
      · omega
    · exact md_wn e
  · rw [← (h.2 i hi).2]
    by_cases e : i = j
    · subst e
      rcases hj with ⟨_, h1, _⟩ | h1
      · exact md_w_k (fun z => h1 z.symm)
      · omega
    · exact md_wn e
def rRow (f : Nat) (row : List Nat) (S : md_S) : Prop := S.2 72 f = nI row.length ∧ row.length ≤ 300 ∧ ∀ i, i < row.length → S.2 74 (300 * f + i) = nI (lk row i)
def rNxt (f : Nat) (row : List Nat) (S : md_S) : Prop := S.2 73 f = nI row.length ∧ row.length ≤ 300 ∧ ∀ i, i < row.length → S.2 75 (300 * f + i) = nI (lk row i)
theorem rRow.f {f : Nat} {row : List Nat} {S S' : md_S} {K : List Nat} (h : rRow f row S) (g : rF K S S') (h1 : 72 ∉ K) (h2 : 74 ∉ K) : rRow f row S' := ⟨by rw [(g 72 h1).2]; exact h.1, h.2.1, fun i hi => by rw [(g 74 h2).2]; exact h.2.2 i hi⟩
theorem rNxt.f {f : Nat} {row : List Nat} {S S' : md_S} {K : List Nat} (h : rNxt f row S) (g : rF K S S') (h1 : 73 ∉ K) (h2 : 75 ∉ K) : rNxt f row S' := ⟨by rw [(g 73 h1).2]; exact h.1, h.2.1, fun i hi => by rw [(g 75 h2).2]; exact h.2.2 i hi⟩
/-- nodes added, as far as they go -/
def addsT : List Nat → List Nat → List Nat × Bool
  | row, [] => (row, false)
  | row, c :: cs => if 300 ≤ row.length then (row, true) else addsT (row ++ [c]) cs
theorem addsR_T : ∀ {cs row : List Nat}, addsR row cs = if (addsT row cs).2 = true then none else some (addsT row cs).1
  | [], row => rfl
  | c :: cs, row => by
    rw [addsR, addsT]
    unfold addR
    by_cases h : 300 ≤ row.length
    · rw [if_pos h, if_pos h]; rfl
    · rw [if_neg h, if_neg h]
      exact addsR_T
theorem addsT_full {row : List Nat} (h : 300 ≤ row.length) : ∀ {cs : List Nat}, (addsT row cs).1 = row ∧ ((addsT row cs).2 = true ∨ cs = [])
  | [] => ⟨rfl, Or.inr rfl⟩
  | c :: cs => by
    rw [addsT, if_pos h]
    exact ⟨rfl, Or.inl rfl⟩
theorem addsT_app : ∀ {a b row : List Nat}, (addsT row (a ++ b)).1 = (addsT (addsT row a).1 b).1 ∧ (addsT row (a ++ b)).2 = ((addsT row a).2 || (addsT (addsT row a).1 b).2)
  | [], b, row => by simp [addsT]
  | c :: a, b, row => by
    rw [List.cons_append, addsT, addsT]
    by_cases h : 300 ≤ row.length
    · rw [if_pos h, if_pos h]
      exact ⟨(addsT_full h).1.symm, rfl⟩
    · rw [if_neg h, if_neg h]
      exact addsT_app
theorem addsT_le : ∀ {cs row : List Nat}, row.length ≤ 300 → (addsT row cs).1.length ≤ 300
  | [], row, h => h
  | c :: cs, row, h => by
    rw [addsT]
    by_cases h2 : 300 ≤ row.length
    · rw [if_pos h2]; exact h
    · rw [if_neg h2]; exact addsT_le (by simp; omega)
theorem addsT_lt {D : dS} : ∀ {cs row : List Nat}, (∀ x, x ∈ row → x < D.1) → (∀ x, x ∈ cs → x < D.1) → ∀ x, x ∈ (addsT row cs).1 → x < D.1
  | [], row, h, _ => h
  | c :: cs, row, h, k => by
    rw [addsT]
    by_cases h2 : 300 ≤ row.length
    · rw [if_pos h2]; exact h
    · rw [if_neg h2]
      exact addsT_lt (fun x hx => by
        rcases List.mem_append.mp hx with z | z
        · exact h x z
        · rw [List.mem_singleton.mp z]; exact k c (by simp)) (fun x hx => k x (by simp [hx]))
abbrev ovI (b : Bool) (x : Int32) : Int32 := if b = true then 1 else x
/-- cs were added to the next row of frame f -/
def AD (f : Nat) (row cs : List Nat) (S S' : md_S) : Prop := rNxt f (addsT row cs).1 S' ∧ S'.1 60 = ovI (addsT row cs).2 (S.1 60) ∧ rF [60, 73, 75] S S' ∧ low f S S'
theorem AD.rf {f : Nat} {row : List Nat} {S : md_S} (h : rNxt f row S) : AD f row [] S S := ⟨h, rfl, rF.rf, low.rf⟩
theorem AD.tr {f : Nat} {row a b : List Nat} {A B C : md_S} (h : AD f row a A B) (k : AD f (addsT row a).1 b B C) : AD f row (a ++ b) A C := by
  obtain ⟨h1, h2, h3, h4⟩ := h
  obtain ⟨k1, k2, k3, k4⟩ := k
  refine ⟨by rw [addsT_app.1]; exact k1, ?_, h3.tr k3 (fun _ z => z) (fun _ z => z), h4.tr k4⟩
  rw [addsT_app.2, k2, h2]
  cases (addsT row a).2 <;> cases (addsT (addsT row a).1 b).2 <;> rfl
theorem e_add {f c : Nat} {row : List Nat} {S : md_S} (hf : f < 8) (h : rNxt f row S) : ∃ S', mo_add (nI f) (nI c) S = some S' ∧ AD f row [c] S S' := by
  obtain ⟨h1, h2, h3⟩ := h
  unfold mo_add
  simp only [if_pos (nI_in hf (by omega)), nI_clamp (show f < 2 ^ 31 by omega), h1]
  by_cases e : row.length = 300
  · rw [if_pos (show nI row.length = 300 by rw [e]; rfl)]
    simp only [md_lx]
    have ht : addsT row [c] = (row, true) := by rw [addsT, if_pos (by omega)]
    refine ⟨_, rfl, ?_, ?_, rF.rf.p (by decide), low.rf.p⟩
    · rw [ht]; exact ⟨h1, h2, h3⟩
    · rw [ht, md_p1, if_pos rfl]; rfl
  · have e' : ¬ nI row.length = 300 := fun z => e ((nI_eq (b := 300) (by omega) (by omega)).mp z)
    rw [if_neg e']
    have ea : (300 : Int32) * nI f + nI row.length = nI (300 * f + row.length) := by
      rw [show (300 : Int32) = nI 300 from rfl, pk_mul, nI_add]
    rw [ea]
    simp only [if_pos (nI_in (show 300 * f + row.length < 2400 by omega) (by omega)), nI_clamp (show 300 * f + row.length < 2 ^ 31 by omega), md_lx]
    have ht : addsT row [c] = (row ++ [c], false) := by rw [addsT, if_neg (by omega)]; rfl
    have e73 : (md_w S 75 (300 * f + row.length) (nI c)).2 73 f = nI row.length := by rw [md_w_k (by decide)]; exact h1
    rw [e73, nI_1]
    refine ⟨_, rfl, ?_, ?_, (rF.rf.w (by decide)).w (by decide), (low.rf.w (Or.inr (by omega))).w (Or.inl ⟨by decide, by decide, Nat.le_refl _⟩)⟩
    · rw [ht]
      refine ⟨?_, by simp; omega, fun i hi => ?_⟩
      · rw [md_w_s]; simp
      · simp at hi
        rw [md_w_k (by decide), lk_app]
        by_cases ei : i = row.length
        · rw [ei, md_w_s, if_neg (by omega), if_pos rfl]
        · rw [md_wn (by omega), if_pos (by omega)]
          exact h3 i (by omega)
    · rw [ht]; rfl
theorem rSt.kid {t : List Nat} {D : dS} {tq : List Nat} {Q : cQ} {S : md_S} (h : rSt t D tq Q S) {n b : Nat} (hn : n < D.1) (hb : n ≤ b) (hb2 : b ≤ 41) {N : Nat} (hN : 161 ≤ N) : mo_follower N (nI n) (nI b) S = some (oI (kidsB D n b).head?, S) := e_foll h.1 hn hb hb2 hN
theorem AD.st {t : List Nat} {D : dS} {tq : List Nat} {Q : cQ} {f : Nat} {row cs : List Nat} {S S' : md_S} (h : AD f row cs S S') (hS : rSt t D tq Q S) : rSt t D tq Q S' := hS.f h.2.2.1 (fun k z => by simp at z; omega)
/-- all children -/
theorem e_selStar {t : List Nat} {D : dS} {tq : List Nat} {Q : cQ} {f n N : Nat} (hf : f < 8) (hn : n < D.1) (hN : 161 ≤ N) : ∀ (ks : List Nat) (fu : Nat) (row : List Nat) (S : md_S), rSt t D tq Q S → (∃ b, n ≤ b ∧ b ≤ 41 ∧ ks = kidsB D n b) → rNxt f row S → ks.length + 1 ≤ fu → ∃ S', mo_select_l122 N fu (nI f) (nI n) (oI ks.head?) S = some S' ∧ AD f row ks S S' := by
  intro ks
  induction ks with
  | nil =>
    intro fu row S hS hk hr hfu
    obtain ⟨fu, rfl⟩ : ∃ k, fu = k + 1 := ⟨fu - 1, by omega⟩
    rw [mo_select_l122, if_pos (show oI ([] : List Nat).head? = -1 from rfl)]
    exact ⟨S, rfl, AD.rf hr⟩
  | cons c r ih =>
    intro fu row S hS hk hr hfu
    obtain ⟨fu, rfl⟩ : ∃ k, fu = k + 1 := ⟨fu - 1, by omega⟩
    obtain ⟨b, b1, b2, b3⟩ := hk
    obtain ⟨c1, c2, c3, c4⟩ := kidsB_c b3.symm
    have h40 : D.1 ≤ 40 := hS.1.2.1.2.1
    rw [mo_select_l122, if_neg (show ¬ oI (c :: r).head? = -1 from nI_m1 (by omega))]
    obtain ⟨S1, d1, d2⟩ := e_add (c := c) hf hr
    rw [show oI (c :: r).head? = nI c from rfl, d1]
    simp only [md_cs]
    have hS1 := d2.st hS
    rw [hS1.kid hn (by omega) (by omega) hN, c1]
    simp only [md_bs]
    obtain ⟨S2, g1, g2⟩ := ih fu (addsT row [c]).1 S1 hS1 ⟨c, by omega, by omega, c1.symm⟩ d2.1 (by simp at hfu; omega)
    exact ⟨S2, g1, d2.tr g2⟩
/-- children of a name -/
theorem e_selName {t : List Nat} {D : dS} {tq : List Nat} {Q : cQ} {f n N k : Nat} {nm : List Nat} (hf : f < 8) (hn : n < D.1) (hN : 161 ≤ N) (hk : k < (qk Q).1) (hnm : rNm tq ((qk Q).2 k).2.1 ((qk Q).2 k).2.2.1 nm) : ∀ (ks : List Nat) (fu : Nat) (row : List Nat) (S : md_S), rSt t D tq Q S → (∃ b, n ≤ b ∧ b ≤ 41 ∧ ks = kidsB D n b) → rNxt f row S → ks.length + 1 ≤ fu → ∃ S', mo_select_l39 N fu (nI f) (nI k) (nI n) (oI ks.head?) S = some S' ∧ AD f row (ks.filter fun j => nnm (D.2 j) == nm) S S' := by
  intro ks
  induction ks with
  | nil =>
    intro fu row S hS hk hr hfu
    obtain ⟨fu, rfl⟩ : ∃ k, fu = k + 1 := ⟨fu - 1, by omega⟩
    rw [mo_select_l39, if_pos (show oI ([] : List Nat).head? = -1 from rfl)]
    exact ⟨S, rfl, AD.rf hr⟩
  | cons c r ih =>
    intro fu row S hS hkk hr hfu
    obtain ⟨fu, rfl⟩ : ∃ k, fu = k + 1 := ⟨fu - 1, by omega⟩
    obtain ⟨b, b1, b2, b3⟩ := hkk
    obtain ⟨c1, c2, c3, c4⟩ := kidsB_c b3.symm
    have h40 : D.1 ≤ 40 := hS.1.2.1.2.1
    have hnk := hS.2.1.2.1.2.2.1
    have cK := hS.2.1.2.2.2.2.1 k hk
    have cD := (hS.1.2.1.2.2.1 c c3).2.2.2.2.1
    rw [mo_select_l39, if_neg (show ¬ oI (c :: r).head? = -1 from nI_m1 (by omega)), show oI (c :: r).head? = nI c from rfl]
    simp only [if_pos (nI_in (show k < 170 by omega) (by omega)), nI_clamp (show k < 2 ^ 31 by omega), if_pos (nI_in (show c < 41 by omega) (by omega)), nI_clamp (show c < 2 ^ 31 by omega), cK.2.1, cK.2.2.1]
    rw [e_same hnm cD hS.2.2 hS.1.2.2 hN]
    simp only [md_bs, i01]
    rw [List.filter_cons]
    by_cases e : nm = nnm (D.2 c)
    · rw [if_neg (fun z => z e), if_pos (by simp [e])]
      obtain ⟨S1, d1, d2⟩ := e_add (c := c) hf hr
      rw [d1]
      simp only [md_cs]
      have hS1 := d2.st hS
      rw [hS1.kid hn (by omega) (by omega) hN, c1]
      simp only [md_bs]
      obtain ⟨S2, g1, g2⟩ := ih fu (addsT row [c]).1 S1 hS1 ⟨c, by omega, by omega, c1.symm⟩ d2.1 (by simp at hfu; omega)
      exact ⟨S2, g1, d2.tr g2⟩
    · rw [if_pos e, if_neg (by simp; exact fun z => e z.symm)]
      rw [hS.kid hn (by omega) (by omega) hN, c1]
      simp only [md_bs]
      exact ih fu row S hS ⟨c, by omega, by omega, c1.symm⟩ hr (by simp at hfu; omega)
/-- names are told apart: one child at most -/
theorem kidN_filter {t : List Nat} {g : Nat → Nat} {D : dS} (hI : dI t g D) {n : Nat} {nm : List Nat} (hn : n < D.1) (h6 : nkd (D.2 n) = 6) : (nki (D.2 n)).filter (fun j => nnm (D.2 j) == nm) = (kidN D n nm).toList := by
  unfold kidN
  have hs : (nki (D.2 n)).Pairwise (· < ·) := by rw [hI.2.2.1 n hn]; exact kF_sorted
  have hm : ∀ j, j ∈ nki (D.2 n) → j < D.1 ∧ nou (D.2 j) = some n := fun j hj => by rw [hI.2.2.1 n hn] at hj; exact kF_m.mp hj
  generalize nki (D.2 n) = l at hs hm
  induction l with
  | nil => rfl
  | cons c r ih =>
    have hs2 := List.pairwise_cons.mp hs
    rw [List.filter_cons, List.find?_cons]
    by_cases e : nnm (D.2 c) = nm
    · have eb : (nnm (D.2 c) == nm) = true := by simp [e]
      rw [if_pos eb, eb]
      simp only [Option.toList_some]
      congr 1
      rw [List.filter_eq_nil_iff]
      intro j hj hjn
      have hj2 := hm j (by simp [hj])
      have hc2 := hm c (by simp)
      have : c = j := hI.2.2.2.2.2.2.1 c j n hc2.1 hj2.1 hc2.2 hj2.2 h6 (by rw [e]; simpa using (by simpa using hjn : nnm (D.2 j) = nm).symm)
      have := hs2.1 j hj
      omega
    · have eb : (nnm (D.2 c) == nm) = false := by simp [e]
      rw [if_neg (by rw [eb]; decide), eb]
      exact ih hs2.2 (fun j hj => hm j (by simp [hj]))
