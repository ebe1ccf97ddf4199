/-! the reference is made: its arrays are laid one after another -/
section MJ
variable {G : mv_G} {h : mv_H} {m j k t n : Nat} {S : md_S}
def md_fv (m j : Nat) (S : md_S) (k : Nat) : Value := if md_k k = none then .int (S.1 k) else if md_ad k ≤ j then .ref (m + md_ad k) else .null
def md_fJ (m j : Nat) (S : md_S) : List Value := (List.range 88).map (md_fv m j S)
def md_sz (j : Nat) : Nat := ((md_tab.take j).map fun q => q.2.2).sum
def md_J (G : mv_G) (h : mv_H) (m j : Nat) (S : md_S) : mv_H := (m + 1 + j, h.2.1 + md_sz j, fun b =>
  if b = m then some (.inr (15, md_fJ m j S)) else if b < m then h.2.2 b else match (md_tab.take j)[b - m - 1]? with
    | some q => some (.inl (mv_t G q.2.1, q.2.2, .inl (fun _ => 0)))
    | none => h.2.2 b)
theorem md_fJ_at {i : Nat} (hk : i < 88) : (md_fJ m j S)[i]? = some (md_fv m j S i) := by
  unfold md_fJ
  rw [List.getElem?_map, List.getElem?_range hk]
  rfl
theorem md_fJ_len : (md_fJ m j S).length = 88 := by simp [md_fJ]
theorem md_J_obj : (md_J G h m j S).2.2 m = some (.inr (15, md_fJ m j S)) := by
  unfold md_J
  simp
theorem md_J_ad (hj : md_tab[j]? = some (k, t, n)) : md_k k = some (t, n) ∧ md_ad k = j + 1 := by
  have hl : j < md_tab.length := by
    refine Classical.byContradiction fun z => ?_
    rw [List.getElem?_eq_none (by omega)] at hj
    cases hj
  have key : ∀ j, j < md_tab.length → (md_tab[j]?).all (fun q => decide (md_k q.1 = some q.2 ∧ md_ad q.1 = j + 1)) = true := by decide +kernel
  have := key j hl
  rw [hj] at this
  simpa using this
theorem md_fJ_s (hj : md_tab[j]? = some (k, t, n)) : (md_fJ m j S).set k (.ref (m + 1 + j)) = md_fJ m (j + 1) S := by
  obtain ⟨h1, h2⟩ := md_J_ad hj
  have hk := md_k_lt h1
  refine List.ext_getElem? fun i => ?_
  by_cases hi : i < 88
  · rw [List.getElem?_set, md_fJ_at hi, md_fJ_at hi, md_fJ_len]
    unfold md_fv
    by_cases e : k = i
    · subst e
      rw [if_pos rfl, if_pos hi, h1, if_neg (by simp), if_pos (by omega), h2, show m + (j + 1) = m + 1 + j by omega]
    · rw [if_neg e]
      congr 1
      by_cases hn : md_k i = none
      · rw [if_pos hn, if_pos hn]
      · rw [if_neg hn, if_neg hn]
        have hne : md_ad i ≠ j + 1 := fun z => by
          rcases md_tab_k i hi with w | w
          · exact hn w
          · rw [z, show j + 1 - 1 = j by omega, hj] at w
            cases hq : md_k i with
            | none => exact hn hq
            | some q =>
              rw [hq] at w
              simp at w
              exact e w.1
        by_cases c : md_ad i ≤ j
        · rw [if_pos c, if_pos (by omega)]
        · rw [if_neg c, if_neg (by omega)]
  · rw [List.getElem?_eq_none (by rw [List.length_set, md_fJ_len]; omega), List.getElem?_eq_none (by rw [md_fJ_len]; omega)]
theorem md_J_s (hj : md_tab[j]? = some (k, t, n)) : mv_set (mv_new (md_J G h m j S) n (.inl (mv_t G t, n, .inl (fun _ => 0)))) m (.inr (15, (md_fJ m j S).set k (.ref (m + 1 + j)))) = md_J G h m (j + 1) S := by
  have hl : j < md_tab.length := by
    refine Classical.byContradiction fun z => ?_
    rw [List.getElem?_eq_none (by omega)] at hj
    cases hj
  have htk : md_tab.take (j + 1) = md_tab.take j ++ [(k, t, n)] := by
    rw [List.take_add_one, hj]; rfl
  have hlen : (md_tab.take j).length = j := by rw [List.length_take]; omega
  rw [md_fJ_s hj]
  unfold mv_set mv_new md_J
  refine Prod.ext rfl (Prod.ext ?_ (funext fun b => ?_))
  · show h.2.1 + md_sz j + n = h.2.1 + md_sz (j + 1)
    unfold md_sz
    rw [htk]
    simp
    omega
  · show (if b = m then _ else if b = m + 1 + j then _ else if b = m then _ else if b < m then _ else _) = (if b = m then _ else if b < m then _ else _)
    by_cases e : b = m
    · rw [if_pos e, if_pos e]
    · rw [if_neg e, if_neg e, if_neg e]
      by_cases e1 : b = m + 1 + j
      · subst e1
        rw [if_pos rfl, if_neg (by omega), htk, show m + 1 + j - m - 1 = j by omega, List.getElem?_append_right (by omega), hlen, Nat.sub_self]
        rfl
      · rw [if_neg e1]
        by_cases e2 : b < m
        · rw [if_pos e2, if_pos e2]
        · rw [if_neg e2, if_neg e2, htk]
          by_cases e3 : b - m - 1 < j
          · rw [List.getElem?_append_left (by omega)]
          · rw [List.getElem?_eq_none (by omega), List.getElem?_eq_none (by rw [List.length_append, hlen]; simp; omega)]
theorem md_J_p (hk : md_k k = none) (hk8 : k < 88) {v : Int32} : mv_set (md_J G h m j S) m (.inr (15, (md_fJ m j S).set k (.int v))) = md_J G h m j (md_p S k v) := by
  have hf : (md_fJ m j S).set k (.int v) = md_fJ m j (md_p S k v) := by
    refine List.ext_getElem? fun i => ?_
    by_cases hi : i < 88
    · rw [List.getElem?_set, md_fJ_at hi, md_fJ_at hi, md_fJ_len]
      unfold md_fv
      by_cases e : k = i
      · subst e
        rw [if_pos rfl, if_pos hi, if_pos hk]
        simp [md_p, upd]
      · rw [if_neg e]
        have e' : ¬ i = k := fun z => e z.symm
        simp [md_p, upd, e']
    · rw [List.getElem?_eq_none (by rw [List.length_set, md_fJ_len]; omega), List.getElem?_eq_none (by rw [md_fJ_len]; omega)]
  rw [hf]
  unfold mv_set md_J
  refine Prod.ext rfl (Prod.ext rfl (funext fun b => ?_))
  show (if b = m then _ else if b = m then _ else _) = (if b = m then _ else _)
  by_cases e : b = m
  · rw [if_pos e, if_pos e]
  · rw [if_neg e, if_neg e, if_neg e]
theorem vJ {P : mv_H → Prop} (hj : md_tab[j]? = some (k, t, n)) (hb : G.2.2.1 ≤ m) (kk : P (md_J G h m (j + 1) S)) : vnw (md_J G h m j S) n (.inl (mv_t G t, n, .inl (fun _ => 0))) fun a h1 => vpu G h1 m 15 k (.ref a) P := by
  have hk := md_k_lt (md_J_ad hj).1
  refine ⟨md_fJ m j S, ?_, hb, by rw [md_fJ_len]; exact hk, ?_⟩
  · unfold mv_new
    show (if m = m + 1 + j then _ else _) = _
    rw [if_neg (by omega)]
    exact md_J_obj
  · show P (mv_set _ m (.inr (15, (md_fJ m j S).set k (.ref (m + 1 + j)))))
    rw [md_J_s hj]
    exact kk
theorem vJp {P : mv_H → Prop} {v : Int32} (hk : md_k k = none) (hk8 : k < 88) (hb : G.2.2.1 ≤ m) (kk : P (md_J G h m j (md_p S k v))) : vpu G (md_J G h m j S) m 15 k (.int v) P :=
  ⟨md_fJ m j S, md_J_obj, hb, by rw [md_fJ_len]; exact hk8, by rw [md_J_p hk hk8]; exact kk⟩
theorem md_J_H (hz : S.2 = fun _ _ => 0) : md_J G h m 59 S = md_H G (m + 60, h.2.1 + md_sz 59, h.2.2) m S := by
  have hf : md_fJ m 59 S = md_fs m S := by
    refine List.ext_getElem? fun i => ?_
    by_cases hi : i < 88
    · rw [md_fJ_at hi, md_fs_at hi]
      unfold md_fv md_v
      congr 1
      by_cases hn : md_k i = none
      · rw [if_pos hn, if_pos hn]
      · rw [if_neg hn, if_neg hn, if_pos ?_]
        have key : ∀ k, k < 88 → md_k k = none ∨ md_ad k ≤ 59 := by decide +kernel
        exact (key i hi).resolve_left hn
    · rw [List.getElem?_eq_none (by rw [md_fJ_len]; omega), List.getElem?_eq_none (by simp [md_fs]; omega)]
  unfold md_J md_H
  rw [hf, show md_tab.take 59 = md_tab from by decide +kernel, hz]
  rfl
end MJ
def md_00 : md_S := (fun _ => 0, fun _ _ => 0)
theorem rW_0 : rW A0 (md_p md_00 3 (-1)) := ⟨⟨rfl, rA_nil (by decide +kernel)⟩, ⟨rfl, rfl, rfl⟩, rfl, ⟨rfl, by decide, fun j hj => absurd hj (Nat.not_lt_zero _)⟩, rfl⟩
theorem sp_X13_init {l : Launch} {G : mv_G} {d m : Nat} {h : mv_H} (hG : mv_ok G) (hb : G.2.2.1 ≤ m) : mv_rq l G mX13_init (d + 1) 0 (mv_in [.ref m] 1) [] (md_J G h m 0 md_00) (fun o h1 => o = .inl none ∧ md_H G (m + 60, h.2.1 + md_sz 59, h.2.2) m (md_p md_00 3 (-1)) = h1) := by
  refine v_X13_init hG ?_
  unfold w_X13_init
  refine vJ (j := 0) rfl hb ?_
  refine vJp (by decide +kernel) (by decide) hb ?_
  refine vJ (j := 1) rfl hb ?_
  refine vJ (j := 2) rfl hb ?_
  refine vJ (j := 3) rfl hb ?_
  refine vJ (j := 4) rfl hb ?_
  refine vJ (j := 5) rfl hb ?_
  refine vJ (j := 6) rfl hb ?_
  refine vJ (j := 7) rfl hb ?_
  refine vJ (j := 8) rfl hb ?_
  refine vJ (j := 9) rfl hb ?_
  refine vJ (j := 10) rfl hb ?_
  refine vJ (j := 11) rfl hb ?_
  refine vJ (j := 12) rfl hb ?_
  refine vJ (j := 13) rfl hb ?_
  refine vJ (j := 14) rfl hb ?_
  refine vJ (j := 15) rfl hb ?_
  refine vJ (j := 16) rfl hb ?_
  refine vJ (j := 17) rfl hb ?_
  refine vJ (j := 18) rfl hb ?_
  refine vJ (j := 19) rfl hb ?_
  refine vJ (j := 20) rfl hb ?_
  refine vJ (j := 21) rfl hb ?_
  refine vJ (j := 22) rfl hb ?_
  refine vJ (j := 23) rfl hb ?_
  refine vJ (j := 24) rfl hb ?_
  refine vJ (j := 25) rfl hb ?_
  refine vJ (j := 26) rfl hb ?_
  refine vJ (j := 27) rfl hb ?_
  refine vJ (j := 28) rfl hb ?_
  refine vJ (j := 29) rfl hb ?_
  refine vJ (j := 30) rfl hb ?_
  refine vJ (j := 31) rfl hb ?_
  refine vJ (j := 32) rfl hb ?_
  refine vJ (j := 33) rfl hb ?_
  refine vJ (j := 34) rfl hb ?_
  refine vJ (j := 35) rfl hb ?_
  refine vJ (j := 36) rfl hb ?_
  refine vJ (j := 37) rfl hb ?_
  refine vJ (j := 38) rfl hb ?_
  refine vJ (j := 39) rfl hb ?_
  refine vJ (j := 40) rfl hb ?_
  refine vJ (j := 41) rfl hb ?_
  refine vJ (j := 42) rfl hb ?_
  refine vJ (j := 43) rfl hb ?_
  refine vJ (j := 44) rfl hb ?_
  refine vJ (j := 45) rfl hb ?_
  refine vJ (j := 46) rfl hb ?_
  refine vJ (j := 47) rfl hb ?_
  refine vJ (j := 48) rfl hb ?_
  refine vJ (j := 49) rfl hb ?_
  refine vJ (j := 50) rfl hb ?_
  refine vJ (j := 51) rfl hb ?_
  refine vJ (j := 52) rfl hb ?_
  refine vJ (j := 53) rfl hb ?_
  refine vJ (j := 54) rfl hb ?_
  refine vJ (j := 55) rfl hb ?_
  refine vJ (j := 56) rfl hb ?_
  refine vJ (j := 57) rfl hb ?_
  refine vJ (j := 58) rfl hb ?_
  exact ⟨rfl, (md_J_H rfl).symm⟩
