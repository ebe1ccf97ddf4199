theorem md_w_s {S : md_S} {k j : Nat} {v : Int32} : (md_w S k j v).2 k j = v := by rw [md_w2, if_pos rfl, upd_s]
theorem md_w_k {S : md_S} {k j k' i : Nat} {v : Int32} (h : k' ≠ k) : (md_w S k j v).2 k' i = S.2 k' i := by rw [md_w2, if_neg h]
theorem rLs_first {X F L : Nat → Int32} {m n a : Nat} {ls : Nat → List Nat} (h : rLs X F L m n ls) (ha : a < m) (hn : n < 1000) : F a = -1 ↔ ls a = [] := by
  have h1 := (h a ha).1
  cases hl : ls a with
  | nil => rw [hl] at h1; exact ⟨fun _ => rfl, fun _ => h1⟩
  | cons x r =>
    rw [hl] at h1
    have := (h a ha).2.2.2.1 x (by rw [hl]; simp)
    exact ⟨fun z => absurd (h1.1.symm.trans z) (nI_m1 (by omega)), fun z => (nomatch z)⟩
theorem rLs_last {X F L : Nat → Int32} {m n a : Nat} {ls : Nat → List Nat} (h : rLs X F L m n ls) (ha : a < m) {l : List Nat} {x : Nat} (hl : ls a = l ++ [x]) : L a = nI x ∧ x < n := by
  refine ⟨(h a ha).2.1 x (by rw [hl, List.getLast?_concat]), (h a ha).2.2.2.1 x (by rw [hl]; simp)⟩
theorem e_newSeg {Q : cQ} {S : md_S} {a : Nat} {bw : Bool} (hC : rC Q S) (ha : a < (qp Q).1) (h : (qg Q).1 < 170) : ∃ S', mo_newSegment (nI a) (bI bw) S = some (nI (qg Q).1, S') ∧ rC (nSeg Q a bw) S' ∧ rF [27, 34, 35, 37, 38, 39, 40, 41, 42] S S' := by
  obtain ⟨⟨a1, a2, a3, a4, a5⟩, ⟨b1, b2, b3, b4, b5⟩, c1, c2, c3, c4, d1, d2, d3⟩ := hC
  have hfst := rLs_first d1 ha (by omega)
  unfold mo_newSegment mo_newSegment_j79
  simp only [a2, md_w1, md_lx, if_pos (nI_in h (by omega)), nI_clamp (show (qg Q).1 < 2 ^ 31 by omega), vnB1, if_pos (nI_in (show a < 100 by omega) (by omega)), nI_clamp (show a < 2 ^ 31 by omega)]
  obtain ⟨S1, hS1⟩ : ∃ S', S' = md_w (md_w (md_w (md_w (md_w (md_w S 37 (qg Q).1 (-1)) 38 (qg Q).1 (-1)) 39 (qg Q).1 (-1)) 40 (qg Q).1 0) 41 (qg Q).1 (nI a)) 42 (qg Q).1 (bI bw) := ⟨_, rfl⟩
  rw [← hS1]
  have f1 : rF [37, 38, 39, 40, 41, 42] S S1 := by
    rw [hS1]
    exact (((((rF.rf.w (by decide)).w (by decide)).w (by decide)).w (by decide)).w (by decide)).w (by decide)
  have k37 : S1.2 37 = upd (S.2 37) (qg Q).1 (-1) := by rw [hS1]; simp [md_w2]
  have k38 : S1.2 38 = upd (S.2 38) (qg Q).1 (-1) := by rw [hS1]; simp [md_w2]
  have k39 : S1.2 39 = upd (S.2 39) (qg Q).1 (-1) := by rw [hS1]; simp [md_w2]
  have k40 : S1.2 40 = upd (S.2 40) (qg Q).1 0 := by rw [hS1]; simp [md_w2]
  have k41 : S1.2 41 = upd (S.2 41) (qg Q).1 (nI a) := by rw [hS1]; simp [md_w2]
  have k42 : S1.2 42 = upd (S.2 42) (qg Q).1 (bI bw) := by rw [hS1]; simp [md_w2]
  have kf : S1.1 = S.1 := by rw [hS1]; rfl
  have e34 : S1.2 34 a = S.2 34 a := by rw [(f1 34 (by decide)).2]
  have e35 : S1.2 35 a = S.2 35 a := by rw [(f1 35 (by decide)).2]
  -- the end, once the list is mended
  have fin : ∀ S2 : md_S, rF [34, 37] S1 S2 → rLs (S2.2 37) (S2.2 34) (upd (S1.2 35) a (nI (qg Q).1)) (qp Q).1 ((qg Q).1 + 1) (updL (qp Q).2.2 a ((qp Q).2.2 a ++ [(qg Q).1])) → ∃ S', some (nI (qg Q).1, md_p (md_w S2 35 a (nI (qg Q).1)) 27 (nI (qg Q).1 + 1)) = some (nI (qg Q).1, S') ∧ rC (nSeg Q a bw) S' ∧ rF [27, 34, 35, 37, 38, 39, 40, 41, 42] S S' := fun S2 f2 hl => by
    have f3 : rF [27, 35] S2 (md_p (md_w S2 35 a (nI (qg Q).1)) 27 (nI (qg Q).1 + 1)) := (rF.rf.w (by decide)).p (by decide)
    have f : rF [27, 34, 35, 37, 38, 39, 40, 41, 42] S (md_p (md_w S2 35 a (nI (qg Q).1)) 27 (nI (qg Q).1 + 1)) := (f1.tr f2 (K := [27, 34, 35, 37, 38, 39, 40, 41, 42]) (by decide) (by decide)).tr f3 (fun _ z => z) (by decide)
    refine ⟨_, rfl, ?_, f⟩
    obtain ⟨S', hS⟩ : ∃ S', S' = md_p (md_w S2 35 a (nI (qg Q).1)) 27 (nI (qg Q).1 + 1) := ⟨_, rfl⟩
    have g27 : S'.1 27 = nI ((qg Q).1 + 1) := by rw [hS, md_p1, if_pos rfl, nI_1]
    have g35 : S'.2 35 = upd (S2.2 35) a (nI (qg Q).1) := by rw [hS]; simp [md_w2, md_p2]
    rw [← hS] at f f3 ⊢
    refine ⟨⟨by rw [(f 26 (by decide)).1]; exact a1, g27, by rw [(f 28 (by decide)).1]; exact a3, by rw [(f 29 (by decide)).1]; exact a4, by rw [(f 30 (by decide)).1]; exact a5⟩, ⟨b1, h, b3, b4, b5⟩, fun b hb => ?_, fun b hb => ?_, fun b hb => ?_, fun b hb => ?_, ?_, ?_, ?_⟩
    · rw [(f 33 (by decide)).2, (f 36 (by decide)).2]; exact c1 b hb
    · rw [(f3 42 (by decide)).2, (f3 41 (by decide)).2, (f3 40 (by decide)).2, (f2 42 (by decide)).2, (f2 41 (by decide)).2, (f2 40 (by decide)).2, k42, k41, k40]
      show _ = bI (updL (qg Q).2.1 (qg Q).1 (bw, a) b).1 ∧ _ = nI (updL (qg Q).2.1 (qg Q).1 (bw, a) b).2 ∧ _ = nI (updL (qg Q).2.2 (qg Q).1 [] b).length
      by_cases e : b = (qg Q).1
      · subst e
        rw [upd_s, upd_s, upd_s, updL_s, updL_s]; exact ⟨rfl, rfl, rfl⟩
      · rw [upd_n e, upd_n e, upd_n e, updL_n e, updL_n e]
        exact c2 b (by have : b < (qg Q).1 + 1 := hb; omega)
    · rw [(f 43 (by decide)).2, (f 45 (by decide)).2, (f 46 (by decide)).2, (f 47 (by decide)).2, (f 48 (by decide)).2]; exact c3 b hb
    · rw [(f 51 (by decide)).2, (f 52 (by decide)).2, (f 53 (by decide)).2]; exact c4 b hb
    · rw [(f3 37 (by decide)).2, (f3 34 (by decide)).2, g35, (f2 35 (by decide)).2]
      exact hl
    · rw [(f3 38 (by decide)).2, (f3 39 (by decide)).2, (f 44 (by decide)).2, (f2 38 (by decide)).2, (f2 39 (by decide)).2, k38, k39]
      exact rLs_new d2 upd_s (fun a ha => upd_n (by omega)) (fun a ha => upd_n (by omega))
    · rw [(f 54 (by decide)).2, (f 49 (by decide)).2, (f 50 (by decide)).2]; exact d3
  have e1 : S1.2 35 = S.2 35 := (f1 35 (by decide)).2
  by_cases h0 : (qp Q).2.2 a = []
  · rw [if_pos (show S1.2 34 a = -1 by rw [e34]; exact hfst.mpr h0)]
    refine fin (md_w S1 34 a (nI (qg Q).1)) (rF.rf.w (by decide)) ?_
    have g34 : (md_w S1 34 a (nI (qg Q).1)).2 34 = upd (S.2 34) a (nI (qg Q).1) := by
      rw [md_w2, if_pos rfl, (f1 34 (by decide)).2]
    rw [g34, md_w2, if_neg (by decide), k37, e1]
    exact rLs_add d1 ha upd_s (fun _ y hy => upd_n (by omega)) (fun l x z => by rw [h0] at z; simp at z) (fun _ => upd_s) (fun z => absurd h0 z) (fun b hb z => upd_n z) upd_s (fun b hb z => upd_n z)
  · rw [if_neg (show ¬ S1.2 34 a = -1 by rw [e34]; exact fun z => h0 (hfst.mp z))]
    rcases nil_app (l := (qp Q).2.2 a) with z | ⟨l, x, z⟩
    · exact absurd z h0
    · obtain ⟨l1, l2⟩ := rLs_last d1 ha z
      rw [← e35] at l1
      simp only [l1, if_pos (nI_in (show x < 170 by omega) (by omega)), nI_clamp (show x < 2 ^ 31 by omega)]
      refine fin (md_w S1 37 x (nI (qg Q).1)) (rF.rf.w (by decide)) ?_
      have g37 : (md_w S1 37 x (nI (qg Q).1)).2 37 = upd (upd (S.2 37) (qg Q).1 (-1)) x (nI (qg Q).1) := by
        rw [md_w2, if_pos rfl, k37]
      rw [g37, md_w2, if_neg (by decide), (f1 34 (by decide)).2, e1]
      refine rLs_add d1 ha (by rw [upd_n (by omega), upd_s]) (fun q => absurd q h0) (fun l' x' z' => ?_) (fun q => absurd q h0) (fun _ => rfl) (fun b hb _ => rfl) upd_s (fun b hb q => upd_n q)
      rw [z] at z'
      have : x = x' := by
        have := congrArg List.getLast? z'
        rw [List.getLast?_concat, List.getLast?_concat] at this
        exact Option.some.inj this
      subst this
      exact ⟨upd_s, fun y hy hne => by rw [upd_n hne, upd_n (by omega)]⟩
theorem e_newSel {Q : cQ} {S : md_S} {s : Nat} {x2 x3 x4 x5 x6 : Int32} (hC : rC Q S) (hs : s < (qg Q).1) (h : (qk Q).1 < 170) : ∃ S', mo_newSelector (nI s) x2 x3 x4 x5 x6 S = some (nI (qk Q).1, S') ∧ rC (nSel Q s (x2, x3, x4, x5, x6)) S' ∧ rF [28, 38, 39, 40, 43, 44, 45, 46, 47, 48] S S' := by
  obtain ⟨⟨a1, a2, a3, a4, a5⟩, ⟨b1, b2, b3, b4, b5⟩, c1, c2, c3, c4, d1, d2, d3⟩ := hC
  have hfst := rLs_first d2 hs (by omega)
  unfold mo_newSelector mo_newSelector_j91
  simp only [a3, md_w1, md_lx, if_pos (nI_in h (by omega)), nI_clamp (show (qk Q).1 < 2 ^ 31 by omega), if_pos (nI_in (show s < 170 by omega) (by omega)), nI_clamp (show s < 2 ^ 31 by omega)]
  obtain ⟨S1, hS1⟩ : ∃ S', S' = md_w (md_w (md_w (md_w (md_w (md_w S 43 (qk Q).1 x2) 45 (qk Q).1 x3) 46 (qk Q).1 x4) 47 (qk Q).1 x5) 48 (qk Q).1 x6) 44 (qk Q).1 (-1) := ⟨_, rfl⟩
  rw [← hS1]
  have f1 : rF [43, 44, 45, 46, 47, 48] S S1 := by
    rw [hS1]
    exact (((((rF.rf.w (by decide)).w (by decide)).w (by decide)).w (by decide)).w (by decide)).w (by decide)
  have k43 : S1.2 43 = upd (S.2 43) (qk Q).1 x2 := by rw [hS1]; simp [md_w2]
  have k45 : S1.2 45 = upd (S.2 45) (qk Q).1 x3 := by rw [hS1]; simp [md_w2]
  have k46 : S1.2 46 = upd (S.2 46) (qk Q).1 x4 := by rw [hS1]; simp [md_w2]
  have k47 : S1.2 47 = upd (S.2 47) (qk Q).1 x5 := by rw [hS1]; simp [md_w2]
  have k48 : S1.2 48 = upd (S.2 48) (qk Q).1 x6 := by rw [hS1]; simp [md_w2]
  have k44 : S1.2 44 = upd (S.2 44) (qk Q).1 (-1) := by rw [hS1]; simp [md_w2]
  have e38 : S1.2 38 s = S.2 38 s := by rw [(f1 38 (by decide)).2]
  have e39 : S1.2 39 s = S.2 39 s := by rw [(f1 39 (by decide)).2]
  have e40 : S1.2 40 = S.2 40 := (f1 40 (by decide)).2
  have fin : ∀ S2 : md_S, rF [38, 44] S1 S2 → rLs (S2.2 44) (S2.2 38) (upd (S1.2 39) s (nI (qk Q).1)) (qg Q).1 ((qk Q).1 + 1) (updL (qg Q).2.2 s ((qg Q).2.2 s ++ [(qk Q).1])) → ∃ S', some (nI (qk Q).1, md_p (md_w (md_w S2 39 s (nI (qk Q).1)) 40 s ((md_w S2 39 s (nI (qk Q).1)).2 40 s + 1)) 28 (nI (qk Q).1 + 1)) = some (nI (qk Q).1, S') ∧ rC (nSel Q s (x2, x3, x4, x5, x6)) S' ∧ rF [28, 38, 39, 40, 43, 44, 45, 46, 47, 48] S S' := fun S2 f2 hl => by
    have e40' : (md_w S2 39 s (nI (qk Q).1)).2 40 s = nI ((qg Q).2.2 s).length := by
      rw [md_w_k (by decide), (f2 40 (by decide)).2, e40]; exact (c2 s hs).2.2
    rw [e40', nI_1]
    have f3 : rF [28, 39, 40] S2 (md_p (md_w (md_w S2 39 s (nI (qk Q).1)) 40 s (nI (((qg Q).2.2 s).length + 1))) 28 (nI (qk Q).1 + 1)) := ((rF.rf.w (by decide)).w (by decide)).p (by decide)
    have f : rF [28, 38, 39, 40, 43, 44, 45, 46, 47, 48] S (md_p (md_w (md_w S2 39 s (nI (qk Q).1)) 40 s (nI (((qg Q).2.2 s).length + 1))) 28 (nI (qk Q).1 + 1)) := (f1.tr f2 (K := [28, 38, 39, 40, 43, 44, 45, 46, 47, 48]) (by decide) (by decide)).tr f3 (fun _ z => z) (by decide)
    refine ⟨_, rfl, ?_, f⟩
    obtain ⟨S', hS⟩ : ∃ S', S' = md_p (md_w (md_w S2 39 s (nI (qk Q).1)) 40 s (nI (((qg Q).2.2 s).length + 1))) 28 (nI (qk Q).1 + 1) := ⟨_, rfl⟩
    have g28 : S'.1 28 = nI ((qk Q).1 + 1) := by rw [hS, md_p1, if_pos rfl, nI_1]
    have g39 : S'.2 39 = upd (S2.2 39) s (nI (qk Q).1) := by rw [hS]; simp [md_w2, md_p2]
    have g40 : S'.2 40 = upd (S2.2 40) s (nI (((qg Q).2.2 s).length + 1)) := by rw [hS]; simp [md_w2, md_p2]
    rw [← hS] at f f3 ⊢
    refine ⟨⟨by rw [(f 26 (by decide)).1]; exact a1, by rw [(f 27 (by decide)).1]; exact a2, g28, by rw [(f 29 (by decide)).1]; exact a4, by rw [(f 30 (by decide)).1]; exact a5⟩, ⟨b1, b2, h, b4, b5⟩, fun b hb => ?_, fun b hb => ?_, fun b hb => ?_, fun b hb => ?_, ?_, ?_, ?_⟩
    · rw [(f 33 (by decide)).2, (f 36 (by decide)).2]; exact c1 b hb
    · rw [(f 42 (by decide)).2, (f 41 (by decide)).2, g40, (f2 40 (by decide)).2, e40]
      have := c2 b hb
      refine ⟨this.1, this.2.1, ?_⟩
      show _ = nI (updL (qg Q).2.2 s ((qg Q).2.2 s ++ [(qk Q).1]) b).length
      by_cases e : b = s
      · subst e
        rw [upd_s, updL_s]; simp
      · rw [upd_n e, updL_n e]; exact this.2.2
    · rw [(f3 43 (by decide)).2, (f3 45 (by decide)).2, (f3 46 (by decide)).2, (f3 47 (by decide)).2, (f3 48 (by decide)).2, (f2 43 (by decide)).2, (f2 45 (by decide)).2, (f2 46 (by decide)).2, (f2 47 (by decide)).2, (f2 48 (by decide)).2, k43, k45, k46, k47, k48]
      show _ = (updL (qk Q).2 (qk Q).1 (x2, x3, x4, x5, x6) b).1 ∧ _ = (updL (qk Q).2 (qk Q).1 (x2, x3, x4, x5, x6) b).2.1 ∧ _ = (updL (qk Q).2 (qk Q).1 (x2, x3, x4, x5, x6) b).2.2.1 ∧ _ = (updL (qk Q).2 (qk Q).1 (x2, x3, x4, x5, x6) b).2.2.2.1 ∧ _ = (updL (qk Q).2 (qk Q).1 (x2, x3, x4, x5, x6) b).2.2.2.2
      by_cases e : b = (qk Q).1
      · subst e
        rw [upd_s, upd_s, upd_s, upd_s, upd_s, updL_s]; exact ⟨rfl, rfl, rfl, rfl, rfl⟩
      · rw [upd_n e, upd_n e, upd_n e, upd_n e, upd_n e, updL_n e]
        exact c3 b (by have : b < (qk Q).1 + 1 := hb; omega)
    · rw [(f 51 (by decide)).2, (f 52 (by decide)).2, (f 53 (by decide)).2]; exact c4 b hb
    · rw [(f 37 (by decide)).2, (f 34 (by decide)).2, (f 35 (by decide)).2]; exact d1
    · rw [(f3 44 (by decide)).2, (f3 38 (by decide)).2, g39, (f2 39 (by decide)).2]
      exact hl
    · rw [(f 54 (by decide)).2, (f 49 (by decide)).2, (f 50 (by decide)).2]; exact d3
  have e1 : S1.2 39 = S.2 39 := (f1 39 (by decide)).2
  by_cases h0 : (qg Q).2.2 s = []
  · rw [if_pos (show S1.2 38 s = -1 by rw [e38]; exact hfst.mpr h0)]
    refine fin (md_w S1 38 s (nI (qk Q).1)) (rF.rf.w (by decide)) ?_
    have g34 : (md_w S1 38 s (nI (qk Q).1)).2 38 = upd (S.2 38) s (nI (qk Q).1) := by
      rw [md_w2, if_pos rfl, (f1 38 (by decide)).2]
    rw [g34, md_w2, if_neg (by decide), k44, e1]
    exact rLs_add d2 hs upd_s (fun _ y hy => upd_n (by omega)) (fun l x z => by rw [h0] at z; simp at z) (fun _ => upd_s) (fun z => absurd h0 z) (fun b hb z => upd_n z) upd_s (fun b hb z => upd_n z)
  · rw [if_neg (show ¬ S1.2 38 s = -1 by rw [e38]; exact fun z => h0 (hfst.mp z))]
    rcases nil_app (l := (qg Q).2.2 s) with z | ⟨l, x, z⟩
    · exact absurd z h0
    · obtain ⟨l1, l2⟩ := rLs_last d2 hs z
      rw [← e39] at l1
      simp only [l1, if_pos (nI_in (show x < 170 by omega) (by omega)), nI_clamp (show x < 2 ^ 31 by omega)]
      refine fin (md_w S1 44 x (nI (qk Q).1)) (rF.rf.w (by decide)) ?_
      have g37 : (md_w S1 44 x (nI (qk Q).1)).2 44 = upd (upd (S.2 44) (qk Q).1 (-1)) x (nI (qk Q).1) := by
        rw [md_w2, if_pos rfl, k44]
      rw [g37, md_w2, if_neg (by decide), (f1 38 (by decide)).2, e1]
      refine rLs_add d2 hs (by rw [upd_n (by omega), upd_s]) (fun q => absurd q h0) (fun l' x' z' => ?_) (fun q => absurd q h0) (fun _ => rfl) (fun b hb _ => rfl) upd_s (fun b hb q => upd_n q)
      rw [z] at z'
      have : x = x' := by
        have := congrArg List.getLast? z'
        rw [List.getLast?_concat, List.getLast?_concat] at this
        exact Option.some.inj this
      subst this
      exact ⟨upd_s, fun y hy hne => by rw [upd_n hne, upd_n (by omega)]⟩
theorem e_emit {Q : cQ} {S : md_S} {c : Nat} {x2 x3 x4 : Int32} (hC : rC Q S) (hc : c < (qc Q).1) (h : (qo Q).1 < 170) : ∃ S', mo_emit (nI c) x2 x3 x4 S = some S' ∧ rC (nOp Q c (x2, x3, x4)) S' ∧ rF [30, 49, 50, 51, 52, 53, 54] S S' := by
  obtain ⟨⟨a1, a2, a3, a4, a5⟩, ⟨b1, b2, b3, b4, b5⟩, c1, c2, c3, c4, d1, d2, d3⟩ := hC
  have hfst := rLs_first d3 hc (by omega)
  unfold mo_emit mo_emit_j73
  simp only [a5, md_w1, md_lx, if_pos (nI_in h (by omega)), nI_clamp (show (qo Q).1 < 2 ^ 31 by omega), if_pos (nI_in (show c < 50 by omega) (by omega)), nI_clamp (show c < 2 ^ 31 by omega)]
  obtain ⟨S1, hS1⟩ : ∃ S', S' = md_w (md_w (md_w (md_w S 51 (qo Q).1 x2) 52 (qo Q).1 x3) 53 (qo Q).1 x4) 54 (qo Q).1 (-1) := ⟨_, rfl⟩
  rw [← hS1]
  have f1 : rF [51, 52, 53, 54] S S1 := by
    rw [hS1]
    exact (((rF.rf.w (by decide)).w (by decide)).w (by decide)).w (by decide)
  have k51 : S1.2 51 = upd (S.2 51) (qo Q).1 x2 := by rw [hS1]; simp [md_w2]
  have k52 : S1.2 52 = upd (S.2 52) (qo Q).1 x3 := by rw [hS1]; simp [md_w2]
  have k53 : S1.2 53 = upd (S.2 53) (qo Q).1 x4 := by rw [hS1]; simp [md_w2]
  have k54 : S1.2 54 = upd (S.2 54) (qo Q).1 (-1) := by rw [hS1]; simp [md_w2]
  have e49 : S1.2 49 c = S.2 49 c := by rw [(f1 49 (by decide)).2]
  have e50 : S1.2 50 c = S.2 50 c := by rw [(f1 50 (by decide)).2]
  have fin : ∀ S2 : md_S, rF [49, 54] S1 S2 → rLs (S2.2 54) (S2.2 49) (upd (S1.2 50) c (nI (qo Q).1)) (qc Q).1 ((qo Q).1 + 1) (updL (qc Q).2 c ((qc Q).2 c ++ [(qo Q).1])) → ∃ S', some (md_p (md_w S2 50 c (nI (qo Q).1)) 30 (nI (qo Q).1 + 1)) = some S' ∧ rC (nOp Q c (x2, x3, x4)) S' ∧ rF [30, 49, 50, 51, 52, 53, 54] S S' := fun S2 f2 hl => by
    have f3 : rF [30, 50] S2 (md_p (md_w S2 50 c (nI (qo Q).1)) 30 (nI (qo Q).1 + 1)) := (rF.rf.w (by decide)).p (by decide)
    have f : rF [30, 49, 50, 51, 52, 53, 54] S (md_p (md_w S2 50 c (nI (qo Q).1)) 30 (nI (qo Q).1 + 1)) := (f1.tr f2 (K := [30, 49, 50, 51, 52, 53, 54]) (by decide) (by decide)).tr f3 (fun _ z => z) (by decide)
    refine ⟨_, rfl, ?_, f⟩
    obtain ⟨S', hS⟩ : ∃ S', S' = md_p (md_w S2 50 c (nI (qo Q).1)) 30 (nI (qo Q).1 + 1) := ⟨_, rfl⟩
    have g30 : S'.1 30 = nI ((qo Q).1 + 1) := by rw [hS, md_p1, if_pos rfl, nI_1]
    have g50 : S'.2 50 = upd (S2.2 50) c (nI (qo Q).1) := by rw [hS]; simp [md_w2, md_p2]
    rw [← hS] at f f3 ⊢
    refine ⟨⟨by rw [(f 26 (by decide)).1]; exact a1, by rw [(f 27 (by decide)).1]; exact a2, by rw [(f 28 (by decide)).1]; exact a3, by rw [(f 29 (by decide)).1]; exact a4, g30⟩, ⟨b1, b2, b3, b4, h⟩, fun b hb => ?_, fun b hb => ?_, fun b hb => ?_, fun b hb => ?_, ?_, ?_, ?_⟩
    · rw [(f 33 (by decide)).2, (f 36 (by decide)).2]; exact c1 b hb
    · rw [(f 42 (by decide)).2, (f 41 (by decide)).2, (f 40 (by decide)).2]; exact c2 b hb
    · rw [(f 43 (by decide)).2, (f 45 (by decide)).2, (f 46 (by decide)).2, (f 47 (by decide)).2, (f 48 (by decide)).2]; exact c3 b hb
    · rw [(f3 51 (by decide)).2, (f3 52 (by decide)).2, (f3 53 (by decide)).2, (f2 51 (by decide)).2, (f2 52 (by decide)).2, (f2 53 (by decide)).2, k51, k52, k53]
      show _ = (updL (qo Q).2 (qo Q).1 (x2, x3, x4) b).1 ∧ _ = (updL (qo Q).2 (qo Q).1 (x2, x3, x4) b).2.1 ∧ _ = (updL (qo Q).2 (qo Q).1 (x2, x3, x4) b).2.2
      by_cases e : b = (qo Q).1
      · subst e
        rw [upd_s, upd_s, upd_s, updL_s]; exact ⟨rfl, rfl, rfl⟩
      · rw [upd_n e, upd_n e, upd_n e, updL_n e]
        exact c4 b (by have : b < (qo Q).1 + 1 := hb; omega)
    · rw [(f 37 (by decide)).2, (f 34 (by decide)).2, (f 35 (by decide)).2]; exact d1
    · rw [(f 44 (by decide)).2, (f 38 (by decide)).2, (f 39 (by decide)).2]; exact d2
    · rw [(f3 54 (by decide)).2, (f3 49 (by decide)).2, g50, (f2 50 (by decide)).2]
      exact hl
  have e1 : S1.2 50 = S.2 50 := (f1 50 (by decide)).2
  by_cases h0 : (qc Q).2 c = []
  · rw [if_pos (show S1.2 49 c = -1 by rw [e49]; exact hfst.mpr h0)]
    refine fin (md_w S1 49 c (nI (qo Q).1)) (rF.rf.w (by decide)) ?_
    have g34 : (md_w S1 49 c (nI (qo Q).1)).2 49 = upd (S.2 49) c (nI (qo Q).1) := by
      rw [md_w2, if_pos rfl, (f1 49 (by decide)).2]
    rw [g34, md_w2, if_neg (by decide), k54, e1]
    exact rLs_add d3 hc upd_s (fun _ y hy => upd_n (by omega)) (fun l x z => by rw [h0] at z; simp at z) (fun _ => upd_s) (fun z => absurd h0 z) (fun b hb z => upd_n z) upd_s (fun b hb z => upd_n z)
  · rw [if_neg (show ¬ S1.2 49 c = -1 by rw [e49]; exact fun z => h0 (hfst.mp z))]
    rcases nil_app (l := (qc Q).2 c) with z | ⟨l, x, z⟩
    · exact absurd z h0
    · obtain ⟨l1, l2⟩ := rLs_last d3 hc z
      rw [← e50] at l1
      simp only [l1, if_pos (nI_in (show x < 170 by omega) (by omega)), nI_clamp (show x < 2 ^ 31 by omega)]
      refine fin (md_w S1 54 x (nI (qo Q).1)) (rF.rf.w (by decide)) ?_
      have g37 : (md_w S1 54 x (nI (qo Q).1)).2 54 = upd (upd (S.2 54) (qo Q).1 (-1)) x (nI (qo Q).1) := by
        rw [md_w2, if_pos rfl, k54]
      rw [g37, md_w2, if_neg (by decide), (f1 49 (by decide)).2, e1]
      refine rLs_add d3 hc (by rw [upd_n (by omega), upd_s]) (fun q => absurd q h0) (fun l' x' z' => ?_) (fun q => absurd q h0) (fun _ => rfl) (fun b hb _ => rfl) upd_s (fun b hb q => upd_n q)
      rw [z] at z'
      have : x = x' := by
        have := congrArg List.getLast? z'
        rw [List.getLast?_concat, List.getLast?_concat] at this
        exact Option.some.inj this
      subst this
      exact ⟨upd_s, fun y hy hne => by rw [upd_n hne, upd_n (by omega)]⟩
/-! what is left to read: a pile, the top first -/
def rTd (S : md_S) : List (Int32 × Int32 × Int32) → Prop
  | [] => True
  | x :: r => (S.2 56 r.length = x.1 ∧ S.2 57 r.length = x.2.1 ∧ S.2 58 r.length = x.2.2) ∧ rTd S r
def rPl (td : List (Int32 × Int32 × Int32)) (S : md_S) : Prop := S.1 55 = nI td.length ∧ td.length ≤ 400 ∧ rTd S td
theorem rTd.u {S S' : md_S} {j : Nat} (e : ∀ i, i < j → S'.2 56 i = S.2 56 i ∧ S'.2 57 i = S.2 57 i ∧ S'.2 58 i = S.2 58 i) : ∀ {td : List (Int32 × Int32 × Int32)}, td.length ≤ j → rTd S td → rTd S' td
  | [], _, _ => trivial
  | x :: r, hl, h => by
    have := e r.length (by simp at hl; omega)
    exact ⟨by rw [this.1, this.2.1, this.2.2]; exact h.1, rTd.u e (by simp at hl; omega) h.2⟩
theorem rPl.f {td : List (Int32 × Int32 × Int32)} {S S' : md_S} {K : List Nat} (h : rPl td S) (f : rF K S S') (h55 : 55 ∉ K) (h56 : 56 ∉ K) (h57 : 57 ∉ K) (h58 : 58 ∉ K) : rPl td S' := ⟨by rw [(f 55 h55).1]; exact h.1, h.2.1, rTd.u (j := td.length) (fun i _ => ⟨by rw [(f 56 h56).2], by rw [(f 57 h57).2], by rw [(f 58 h58).2]⟩) (Nat.le_refl _) h.2.2⟩
theorem e_push {td : List (Int32 × Int32 × Int32)} {S : md_S} {x y z : Int32} (h : rPl td S) (hl : td.length < 400) : ∃ S', mo_push x y z S = some S' ∧ rPl ((x, y, z) :: td) S' ∧ rF [55, 56, 57, 58] S S' := by
  unfold mo_push
  simp only [h.1, md_w1, md_lx, if_pos (nI_in hl (by omega)), nI_clamp (show td.length < 2 ^ 31 by omega)]
  refine ⟨_, rfl, ⟨?_, by simp; omega, ?_, ?_⟩, (((rF.rf.w (by decide)).w (by decide)).w (by decide)).p (by decide)⟩
  · rw [md_p1, if_pos rfl, nI_1]; rfl
  · simp [md_w2, md_p2, upd]
  · refine rTd.u (j := td.length) (fun i hi => ?_) (Nat.le_refl _) h.2.2
    have : i ≠ td.length := by omega
    simp [md_w2, md_p2, upd, this]
theorem e_pop {td : List (Int32 × Int32 × Int32)} {S : md_S} {x : Int32 × Int32 × Int32} (h : rPl (x :: td) S) : rPl td (md_p S 55 (nI td.length)) ∧ S.1 55 - 1 = nI td.length := by
  refine ⟨⟨by rw [md_p1, if_pos rfl], by have := h.2.1; simp at this; omega, rTd.u (S := S) (S' := md_p S 55 (nI td.length)) (j := td.length) (fun i _ => ⟨rfl, rfl, rfl⟩) (Nat.le_refl _) h.2.2.2⟩, ?_⟩
  rw [h.1]
  exact nI_pred _
