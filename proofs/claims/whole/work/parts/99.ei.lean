/-! the law's helpers against the abstract machine -/
/-- what a helper answers -/
def LO (G : mv_G) (h : mv_H) (x y0 ou nc ns : Nat) (r : Int32 × Int32 × aS) (o : mv_O) (h1 : mv_H) : Prop := ∃ h', TP G h' x y0 r.2.2 nc ns ∧ oth h h' x y0 ∧ o = .inl (some (.int r.1)) ∧ ((r.1 = 0 ∧ ∃ f, h1 = mv_set h' ou (.inl (mv_t G 3, 1, .inr (.inl f))) ∧ f 0 = r.2.1.toInt64) ∨ (r.1 ≠ 0 ∧ h1 = h'))
section LH
variable {l : Launch} {G : mv_G} {d x y0 nc ns ou : Nat} {h : mv_H} {A : aS} {f : Nat → Int64} {Q : mv_O → mv_H → Prop}
theorem xc_L_document {a pc : Nat} (hpc : 0 ≤ pc ∧ pc < 8) (hq : Q (.inl (some (.int 1))) h) : mv_xq l G mL_document (d + 1) pc [some (.ref x), some (.ref ou), none] (xIA, a) h Q := by
  refine q_xcatch (pre := []) (suf := []) (x := (0, 8, 11, 13)) (name := xIA) rfl (fun z hz => nomatch hz) hpc (by decide) cl_RL_13 xc_cast ?_
  refine q_astore_n dL_document_11 (Nat.le_of_ble_eq_true rfl) rfl ?_
  refine q_iconst (v := 1) dL_document_12 (by decide) ?_
  exact q_iret (ty := .int) dL_document_13 rfl rfl hq
theorem xc_L_query {a pc : Nat} (hpc : 0 ≤ pc ∧ pc < 8) (hq : Q (.inl (some (.int 1))) h) : mv_xq l G mL_query (d + 1) pc [some (.ref x), some (.ref ou), none] (xIA, a) h Q := by
  refine q_xcatch (pre := []) (suf := []) (x := (0, 8, 11, 13)) (name := xIA) rfl (fun z hz => nomatch hz) hpc (by decide) cl_RL_13 xc_cast ?_
  refine q_astore_n dL_query_11 (Nat.le_of_ble_eq_true rfl) rfl ?_
  refine q_iconst (v := 1) dL_query_12 (by decide) ?_
  exact q_iret (ty := .int) dL_query_13 rfl rfl hq
theorem xc_castS : Cond.castable xIS xIS ∈ lw_tbl := mv_at 1164 (by decide +kernel)
theorem xc_castU : Cond.castable xUO xUO ∈ lw_tbl := mv_at 1192 (by decide +kernel)
theorem xc_L_find {a pc : Nat} (hpc : 0 ≤ pc ∧ pc < 8) (hq : Q (.inl (some (.int 1))) h) : mv_xq l G mL_find (d + 1) pc [some (.ref x), some (.ref ou), none] (xIS, a) h Q := by
  refine q_xcatch (pre := []) (suf := [(0, 8, 14, 23)]) (x := (0, 8, 11, 21)) (name := xIS) rfl (fun z hz => nomatch hz) hpc (by decide) cl_RL_21 xc_castS ?_
  refine q_astore_n dL_find_11 (Nat.le_of_ble_eq_true rfl) rfl ?_
  refine q_iconst (v := 1) dL_find_12 (by decide) ?_
  exact q_iret (ty := .int) dL_find_13 rfl rfl hq
theorem xc_L_findU {a pc : Nat} (hN : ∀ U : State, G.2.2.2.2 U → va_Nc xUO xIS U) (hpc : 0 ≤ pc ∧ pc < 8) (hq : Q (.inl (some (.int 2))) h) : mv_xq l G mL_find (d + 1) pc [some (.ref x), some (.ref ou), none] (xUO, a) h Q := by
  refine q_xcatch (pre := [(0, 8, 11, 21)]) (suf := []) (x := (0, 8, 14, 23)) (name := xUO) rfl (fun z hz => ?_) hpc (by decide) cl_RL_23 xc_castU ?_
  · rw [List.mem_singleton.mp hz]
    exact Or.inr ⟨by decide, xIS, cl_RL_21, hN⟩
  refine q_astore_n dL_find_14 (Nat.le_of_ble_eq_true rfl) rfl ?_
  refine q_iconst (v := 2) dL_find_15 (by decide) ?_
  exact q_iret (ty := .int) dL_find_16 rfl rfl hq
theorem TP.ob (T : TP G h x y0 A nc ns) : ∃ fs, h.2.2 x = some (.inr (14, fs)) := by
  obtain ⟨cur, spa, v1, c1, v2, c2, q2, qp, T, _⟩ := T
  exact ⟨_, T.1⟩
theorem TP.bs (T : TP G h x y0 A nc ns) : G.2.2.1 ≤ x ∧ x + 199 ≤ y0 ∧ y0 ≤ h.1 := by
  obtain ⟨cur, spa, v1, c1, v2, c2, q2, qp, T, _⟩ := T
  exact T.2.2.2.2.2.2.2.2.2.2.2.2.2.2.1
theorem vsl_o {h' : mv_H} {y : Int32} {P : mv_H → Prop} (T : TP G h' x y0 A nc ns) (ho : oth h h' x y0) (hou : x + 199 ≤ ou ∧ ou < y0) (fo : h.2.2 ou = some (.inl (mv_t G 3, 1, .inr (.inl f)))) (kk : ∀ g : Nat → Int64, g 0 = y.toInt64 → P (mv_set h' ou (.inl (mv_t G 3, 1, .inr (.inl g))))) : vsl G h' ou 0 y.toInt64 P := by
  have := T.bs
  refine ⟨1, f, (ho ou (Or.inl hou.1) hou.2).trans fo, by omega, by unfold vp_in; decide, kk _ ?_⟩
  show vp_updL f 0 y.toInt64 0 = _
  simp [vp_updL]
theorem sp_Ldocument (hG : mv_ok G) (hX : mv_okX l G) (hT : mv_t G 0 ≠ mv_t G 1) (T : TP G h x y0 A nc ns) (hou : x + 199 ≤ ou ∧ ou < y0) (fo : h.2.2 ou = some (.inl (mv_t G 3, 1, .inr (.inl f)))) (hd : 31 ≤ d) : mv_rq l G mL_document (d + 1) 0 (mv_in [.ref x, .ref ou] 3) [] h (LO G h x y0 ou (nc + 820) (ns + 8400) (aDoc A)) := by
  obtain ⟨d, rfl⟩ : ∃ d', d = d' + 1 := ⟨d - 1, by omega⟩
  obtain ⟨fs, hx⟩ := T.ob
  refine v_L_document hG ?_
  unfold w_L_document
  refine vob_of hx ((sp_document hG hX hT T (by omega)).mono fun o h1 q => ?_)
  obtain ⟨q1, q2, q3⟩ := q
  rcases q1 with ⟨r0, e⟩ | ⟨r1, a, e⟩
  · exact Or.inl ⟨_, e, vsl_o q2 q3 hou fo fun g hg => ⟨h1, q2, q3, by rw [r0], Or.inl ⟨r0, g, rfl, hg⟩⟩⟩
  · exact Or.inr ⟨_, e, xc_L_document ⟨by omega, by omega⟩ ⟨h1, q2, q3, by rw [r1], Or.inr ⟨by rw [r1]; decide, rfl⟩⟩⟩
theorem sp_Lquery (hG : mv_ok G) (hX : mv_okX l G) (T : TP G h x y0 A nc ns) (hou : x + 199 ≤ ou ∧ ou < y0) (fo : h.2.2 ou = some (.inl (mv_t G 3, 1, .inr (.inl f)))) (hd : 71 ≤ d) : mv_rq l G mL_query (d + 1) 0 (mv_in [.ref x, .ref ou] 3) [] h (LO G h x y0 ou (nc + 820) (ns + 8400) (aQry A)) := by
  obtain ⟨d, rfl⟩ : ∃ d', d = d' + 1 := ⟨d - 1, by omega⟩
  obtain ⟨fs, hx⟩ := T.ob
  refine v_L_query hG ?_
  unfold w_L_query
  refine vob_of hx ((sp_query hG hX T (by omega)).mono fun o h1 q => ?_)
  obtain ⟨q1, q2, q3⟩ := q
  rcases q1 with ⟨r0, e⟩ | ⟨r1, a, e⟩
  · exact Or.inl ⟨_, e, vsl_o q2 q3 hou fo fun g hg => ⟨h1, q2, q3, by rw [r0], Or.inl ⟨r0, g, rfl, hg⟩⟩⟩
  · exact Or.inr ⟨_, e, xc_L_query ⟨by omega, by omega⟩ ⟨h1, q2, q3, by rw [r1], Or.inr ⟨by rw [r1]; decide, rfl⟩⟩⟩
theorem sp_Lfind (hG : mv_ok G) (hX : mv_okX l G) (hT : mv_t G 0 ≠ mv_t G 1) (hN : ∀ U : State, G.2.2.2.2 U → va_Nc xUO xIS U) (T : TP G h x y0 A nc ns) (hou : x + 199 ≤ ou ∧ ou < y0) (fo : h.2.2 ou = some (.inl (mv_t G 3, 1, .inr (.inl f)))) (hd : 81 ≤ d) : mv_rq l G mL_find (d + 1) 0 (mv_in [.ref x, .ref ou] 3) [] h (LO G h x y0 ou (nc + 820) (ns + 8400) (aFind A)) := by
  obtain ⟨d, rfl⟩ : ∃ d', d = d' + 1 := ⟨d - 1, by omega⟩
  obtain ⟨fs, hx⟩ := T.ob
  refine v_L_find hG ?_
  unfold w_L_find
  refine vob_of hx ((sp_find hG hX hT T (by omega)).mono fun o h1 q => ?_)
  obtain ⟨q1, q2, q3⟩ := q
  rcases q1 with ⟨r0, e⟩ | ⟨r1, a, e⟩ | ⟨r1, a, e⟩
  · exact Or.inl ⟨_, e, vsl_o q2 q3 hou fo fun g hg => ⟨h1, q2, q3, by rw [r0], Or.inl ⟨r0, g, rfl, hg⟩⟩⟩
  · exact Or.inr ⟨_, e, xc_L_find ⟨by omega, by omega⟩ ⟨h1, q2, q3, by rw [r1], Or.inr ⟨by rw [r1]; decide, rfl⟩⟩⟩
  · exact Or.inr ⟨_, e, xc_L_findU hN ⟨by omega, by omega⟩ ⟨h1, q2, q3, by rw [r1], Or.inr ⟨by rw [r1]; decide, rfl⟩⟩⟩
end LH
/-! the reference's cells -/
section MD
variable {G : mv_G} {h h1 : mv_H} {m : Nat} {S : md_S}
theorem md_len : md_tab.length = 59 := by decide +kernel
def MD (G : mv_G) (h : mv_H) (m : Nat) (S : md_S) : Prop := md_H G h m S = h
theorem md_e {b : Nat} : (md_H G h m S).2.2 b = (if b = m then some (.inr (15, md_fs m S)) else if b < m then h.2.2 b else match md_tab[b - m - 1]? with
    | some q => some (.inl (mv_t G q.2.1, q.2.2, .inl (S.2 q.1)))
    | none => h.2.2 b) := rfl
theorem md_out {b : Nat} (hb : b < m ∨ m + 60 ≤ b) : (md_H G h m S).2.2 b = h.2.2 b := by
  rw [md_e]
  rcases hb with hb | hb
  · rw [if_neg (by omega), if_pos hb]
  · rw [if_neg (by omega), if_neg (by omega), List.getElem?_eq_none (by rw [md_len]; omega)]
theorem md_nst {b : Nat} {fs : List Value} (h1 : m ≤ b) (h2 : b < m + 60) : (md_H G h m S).2.2 b ≠ some (.inr (0, fs)) := by
  rw [md_e]
  intro z
  by_cases c : b = m
  · rw [if_pos c] at z
    cases z
  · rw [if_neg c, if_neg (by omega), List.getElem?_eq_getElem (by rw [md_len]; omega)] at z
    cases z
theorem MD.i : MD G (md_H G h m S) m S := by
  unfold MD
  refine Prod.ext rfl (Prod.ext rfl (funext fun b => ?_))
  by_cases c : m ≤ b ∧ b < m + 60
  · by_cases c2 : b = m
    · rw [md_e, md_e, if_pos c2, if_pos c2]
    · rw [md_e, md_e, if_neg c2, if_neg c2, if_neg (by omega), if_neg (by omega), List.getElem?_eq_getElem (by rw [md_len]; omega)]
  · rw [md_out (by omega)]
theorem MD.o (H : MD G h m S) (k : ∀ a, m ≤ a → a < m + 60 → h1.2.2 a = h.2.2 a) : MD G h1 m S := by
  unfold MD at H ⊢
  refine Prod.ext rfl (Prod.ext rfl (funext fun b => ?_))
  by_cases c : m ≤ b ∧ b < m + 60
  · rw [k b c.1 c.2, ← H, md_e, md_e]
    by_cases c2 : b = m
    · rw [if_pos c2, if_pos c2]
    · rw [if_neg c2, if_neg c2, if_neg (by omega), if_neg (by omega), List.getElem?_eq_getElem (by rw [md_len]; omega)]
  · exact md_out (by omega)
theorem MD.ob (H : MD G h m S) : ∃ fs, h.2.2 m = some (.inr (15, fs)) := by
  unfold MD at H
  rw [← H, md_e, if_pos rfl]
  exact ⟨_, rfl⟩
end MD
