/-! The reference's object: md_S is its fields (by number) and its arrays (by the number of the field that holds them). -/
abbrev md_S : Type := (Nat → Int32) × (Nat → Nat → Int32)
def md_p (S : md_S) (k : Nat) (v : Int32) : md_S := (upd S.1 k v, S.2)
def md_w (S : md_S) (k j : Nat) (v : Int32) : md_S := (S.1, fun i => if i = k then upd (S.2 k) j v else S.2 i)
def md_tab : List (Nat × Nat × Nat) := [(1, 0, 160), (4, 0, 160), (11, 0, 160), (12, 1, 41), (13, 1, 41), (14, 1, 41), (15, 1, 41), (16, 1, 41), (17, 1, 41), (18, 1, 41), (19, 1, 41), (20, 1, 8), (32, 0, 160), (33, 1, 100), (34, 1, 100), (35, 1, 100), (36, 2, 100), (37, 1, 170), (38, 1, 170), (39, 1, 170), (40, 1, 170), (41, 1, 170), (42, 2, 170), (43, 1, 170), (44, 1, 170), (45, 1, 170), (46, 1, 170), (47, 1, 170), (48, 1, 170), (49, 1, 50), (50, 1, 50), (51, 1, 170), (52, 1, 170), (53, 1, 170), (54, 1, 170), (56, 1, 400), (57, 1, 400), (58, 1, 400), (62, 1, 8), (63, 1, 8), (64, 1, 8), (65, 1, 8), (66, 1, 8), (67, 1, 8), (68, 1, 8), (69, 1, 8), (70, 1, 8), (71, 1, 8), (72, 1, 8), (73, 1, 8), (74, 1, 2400), (75, 1, 2400), (77, 1, 100), (78, 1, 100), (79, 1, 100), (80, 1, 200), (81, 1, 200), (83, 1, 300), (85, 0, 400)]
def md_k (k : Nat) : Option (Nat × Nat) := (md_tab.find? (fun q => q.1 == k)).map (fun q => q.2)
def md_ad (k : Nat) : Nat := md_tab.findIdx (fun q => q.1 == k) + 1
def md_v (m : Nat) (S : md_S) (k : Nat) : Value := if md_k k = none then .int (S.1 k) else .ref (m + md_ad k)
def md_fs (m : Nat) (S : md_S) : List Value := (List.range 88).map (md_v m S)
def md_H (G : mv_G) (B : mv_H) (m : Nat) (S : md_S) : mv_H := (B.1, B.2.1, fun b =>
  if b = m then some (.inr (15, md_fs m S)) else if b < m then B.2.2 b else match md_tab[b - m - 1]? with
    | some q => some (.inl (mv_t G q.2.1, q.2.2, .inl (S.2 q.1)))
    | none => B.2.2 b)
theorem md_tab_k : ∀ k, k < 88 → (md_k k = none ∨ md_tab[md_ad k - 1]? = (md_k k).map (fun q => (k, q))) := by decide +kernel
theorem md_tab_i : ∀ i, i < md_tab.length → ∀ j, j < md_tab.length → (md_tab[i]?).map (fun q => q.1) = (md_tab[j]?).map (fun q => q.1) → i = j := by decide +kernel
theorem md_k_lt {k : Nat} {q : Nat × Nat} (h : md_k k = some q) : k < 88 := by
  unfold md_k at h
  cases hf : md_tab.find? (fun q => q.1 == k) with
  | none => rw [hf] at h; cases h
  | some r =>
    have h1 := List.mem_of_find?_eq_some hf
    have h2 := List.find?_some hf
    have h3 : r.1 = k := by simpa using h2
    have h4 : ∀ r ∈ md_tab, r.1 < 88 := by decide +kernel
    rw [← h3]
    exact h4 r h1
theorem md_tab_at {k t n : Nat} (h : md_k k = some (t, n)) : md_tab[md_ad k - 1]? = some (k, t, n) := by
  rcases md_tab_k k (md_k_lt h) with z | z
  · rw [z] at h; cases h
  · rw [z, h]; rfl
section MD0
variable {G : mv_G} {B : mv_H} {m : Nat} {S : md_S}
theorem md_obj : (md_H G B m S).2.2 m = some (.inr (15, md_fs m S)) := by
  unfold md_H
  simp
theorem md_arr {k t n : Nat} (h : md_k k = some (t, n)) : (md_H G B m S).2.2 (m + md_ad k) = some (.inl (mv_t G t, n, .inl (S.2 k))) := by
  have h1 := md_tab_at h
  have h2 : 0 < md_ad k := Nat.succ_pos _
  unfold md_H
  show (if m + md_ad k = m then _ else if m + md_ad k < m then _ else _) = _
  rw [if_neg (by omega), if_neg (by omega), show m + md_ad k - m - 1 = md_ad k - 1 by omega, h1]
theorem md_fs_at {k : Nat} (hk : k < 88) : (md_fs m S)[k]? = some (md_v m S k) := by
  unfold md_fs
  rw [List.getElem?_map, List.getElem?_range hk]
  rfl
theorem md_fs_len : (md_fs m S).length = 88 := by simp [md_fs]
theorem md_vi {k : Nat} (h : md_k k = none) : md_v m S k = .int (S.1 k) := if_pos h
theorem md_va {k : Nat} {q : Nat × Nat} (h : md_k k = some q) : md_v m S k = .ref (m + md_ad k) := if_neg (by rw [h]; exact nofun)
theorem md_fs_set {k : Nat} {v : Int32} (h : md_k k = none) : (md_fs m S).set k (.int v) = md_fs m (md_p S k v) := by
  refine List.ext_getElem? fun j => ?_
  unfold md_fs
  by_cases hj : j < 88
  · rw [List.getElem?_set, List.getElem?_map, List.getElem?_map, List.getElem?_range hj]
    by_cases e : k = j
    · subst e
      simp [md_v, h, md_p, upd, hj]
    · have e' : ¬ j = k := fun z => e z.symm
      simp [md_v, md_p, upd, e, e']
  · rw [List.getElem?_eq_none (by simp; omega), List.getElem?_eq_none (by simp; omega)]
theorem md_set_o {k : Nat} {v : Int32} (h : md_k k = none) : mv_set (md_H G B m S) m (.inr (15, (md_fs m S).set k (.int v))) = md_H G B m (md_p S k v) := by
  rw [md_fs_set h]
  unfold mv_set md_H
  refine congrArg (Prod.mk B.1) (congrArg (Prod.mk B.2.1) (funext fun b => ?_))
  by_cases e : b = m
  · simp [e]
  · simp [e, md_p]
theorem md_set_a {k t n j : Nat} {v : Int32} (h : md_k k = some (t, n)) : mv_set (md_H G B m S) (m + md_ad k) (.inl (mv_t G t, n, .inl (upd (S.2 k) j v))) = md_H G B m (md_w S k j v) := by
  have h1 := md_tab_at h
  have h2 : 0 < md_ad k := Nat.succ_pos _
  unfold mv_set md_H
  refine congrArg (Prod.mk B.1) (congrArg (Prod.mk B.2.1) (funext fun b => ?_))
  by_cases e : b = m + md_ad k
  · subst e
    have : m + md_ad k - m - 1 = md_ad k - 1 := by omega
    have a1 : ¬ m + md_ad k = m := by omega
    have a2 : ¬ m + md_ad k < m := by omega
    simp only [if_true, this, h1, a1, a2, if_false]
    simp [md_w]
  · by_cases e1 : b = m
    · have e2 : ¬ m = m + md_ad k := by omega
      simp only [e1, e2, if_true, if_false]
      rfl
    · by_cases e3 : b < m
      · simp only [e, e1, e3, if_true, if_false]
      · simp only [e, e1, e3, if_false]
        cases hq : md_tab[b - m - 1]? with
        | none => rfl
        | some q =>
          have hl : b - m - 1 < md_tab.length := (List.getElem?_eq_some_iff.mp hq).1
          have hl2 : md_ad k - 1 < md_tab.length := (List.getElem?_eq_some_iff.mp h1).1
          have hne : ¬ q.1 = k := fun z => by
            have := md_tab_i _ hl _ hl2 (by rw [hq, h1]; simp [z])
            omega
          simp [md_w, hne]
end MD0
/-! How the printed functions are put together. -/
def md_b {α : Type} (o : Option (Int32 × md_S)) (f : Int32 → md_S → Option α) : Option α := match o with
  | some q => f q.1 q.2
  | none => none
def md_c {α : Type} (o : Option md_S) (f : md_S → Option α) : Option α := match o with
  | some q => f q
  | none => none
def md_l {α β : Type} (x : α) (f : α → β) : β := f x
abbrev md_bo (x : Int32) : Prop := x = 0 ∨ x = 1
abbrev md_in (i : Int32) (n : Nat) : Prop := ¬ (i < 0 ∨ n ≤ i.toNatClampNeg)
theorem md_b_e {α : Type} {o : Option (Int32 × md_S)} {f : Int32 → md_S → Option α} {r : α} (h : md_b o f = some r) : ∃ v S, o = some (v, S) ∧ f v S = some r := by
  match o, h with
  | some (v, S), h => exact ⟨v, S, rfl, h⟩
theorem md_c_e {α : Type} {o : Option md_S} {f : md_S → Option α} {r : α} (h : md_c o f = some r) : ∃ S, o = some S ∧ f S = some r := by
  match o, h with
  | some S, h => exact ⟨S, rfl, h⟩
theorem md_l_e {α β : Type} {x y : α} {f : α → β} {r : β} (e : y = x) (h : md_l x f = r) : f y = r := by rw [e]; exact h
theorem md_pos {α : Type} {c : Prop} {i : Decidable c} {t e : α} {r : α} (hc : c) (h : @ite α c i t e = r) : t = r := by rw [if_pos hc] at h; exact h
theorem md_neg {α : Type} {c : Prop} {i : Decidable c} {t e : α} {r : α} (hc : ¬ c) (h : @ite α c i t e = r) : e = r := by rw [if_neg hc] at h; exact h
theorem md_g {α : Type} {c : Prop} {i : Decidable c} {t : Option α} {r : α} (h : @ite (Option α) c i t none = some r) : c ∧ t = some r := by
  by_cases hc : c
  · exact ⟨hc, md_pos hc h⟩
  · rw [if_neg hc] at h; cases h
theorem md_bnar {x : Int32} (h : md_bo x) : narrow .boolean (.int x) = .int x := by
  rcases h with rfl | rfl
  · rfl
  · rfl
theorem md_bfit {x : Int32} (h : md_bo x) : fits .boolean (.int x) = true := by
  rcases h with rfl | rfl
  · rfl
  · rfl
theorem md_ti {x y : Int32} {i : Int} (hy : y.toInt = i) (h : x = y) : x.toInt = i := by rw [h]; exact hy
theorem md_tn {x y : Int32} {i : Int} (hy : y.toInt = i) (h : ¬ x = y) : x.toInt ≠ i := fun z => h (Int32.toInt_inj.mp (z.trans hy.symm))
/-- ends: a number, or nothing, and the object in its new state -/
def md_Q (G : mv_G) (B : mv_H) (m : Nat) (q : Int32 × md_S) : mv_O → mv_H → Prop := fun o h1 => o = .inl (some (.int q.1)) ∧ md_H G B m q.2 = h1
def md_V (G : mv_G) (B : mv_H) (m : Nat) (q : md_S) : mv_O → mv_H → Prop := fun o h1 => o = .inl none ∧ md_H G B m q = h1
/-- what is known of fewer locals is enough -/
def mv_le : List (Option Value) → List (Option Value) → Prop
  | [], [] => True
  | none :: a, _ :: b => mv_le a b
  | some v :: a, w :: b => w = some v ∧ mv_le a b
  | _, _ => False
theorem mv_le_at : ∀ (A L : List (Option Value)), mv_le A L → A.length = L.length ∧ ∀ (i : Nat) (v : Value), A[i]? = some (some v) → L[i]? = some (some v)
  | [], [], _ => ⟨rfl, fun _ _ h => h⟩
  | none :: a, w :: b, h => by
    obtain ⟨h1, h2⟩ := mv_le_at a b h
    refine ⟨by simp [h1], fun i v hi => ?_⟩
    match i, hi with
    | 0, hi => simp at hi
    | i + 1, hi => simp at hi ⊢; exact h2 i v hi
  | some x :: a, w :: b, h => by
    obtain ⟨h0, h'⟩ := h
    obtain ⟨h1, h2⟩ := mv_le_at a b h'
    refine ⟨by simp [h1], fun i v hi => ?_⟩
    match i, hi with
    | 0, hi => simp at hi ⊢; rw [h0, hi]
    | i + 1, hi => simp at hi ⊢; exact h2 i v hi
  | [], _ :: _, h => h.elim
  | none :: _, [], h => h.elim
  | some _ :: _, [], h => h.elim
section MD1
variable {l : Launch} {G : mv_G} {M : mv_M} {d pc : Nat} {L : List (Option Value)} {st : List Value} {Q : mv_O → mv_H → Prop} {B : mv_H} {m : Nat} {S : md_S}
theorem mv_weak {A : List (Option Value)} {h : mv_H} (hle : mv_le A L) (k : mv_rq l G M d pc A st h Q) : mv_rq l G M d pc L st h Q :=
  mv_pure (fun p e R s m args below meth c H locs cells slots ls Q0 C hR hl kk => kk ls (by
    obtain ⟨a1, a2⟩ := mv_le_at _ _ hle
    exact ⟨hl.1.trans a1.symm, hl.2.1, fun i v hi => hl.2.2 i v (a2 i v hi)⟩)) k
theorem q_ldcw {idx : Nat} {v : Int32} {h : mv_H} (hd : decode M.2.1 pc = .ok (.ldc_w idx, 3)) (hlk : Cond.constant M.1.cls idx v ∈ lw_tbl) (k0 : mv_rq l G M d (pc + 3) L (.int v :: st) h Q) : mv_rq l G M d pc L st h Q :=
  mv_pure (fun p e R s m args below meth c H locs cells slots ls Q0 C hR hl kk => lv_ldcw C.1 C.2.1 (mv_own C) (mv_word C hlk rfl) hd (kk ls hl)) k0
theorem r_geti (k : Nat) {idx : Nat} (hd : decode M.2.1 pc = .ok (.getfield idx, 3)) (hlk : Cond.fieldLink M.1.cls idx RX13 (TX13 k).2.1 (TX13 k).2.2.1 ∈ lw_tbl) (hk : k < 88) (hre : (TX13 k).1 = RX13) (hi : md_k k = none)
    (k0 : mv_rq l G M d (pc + 3) L (.int (S.1 k) :: st) (md_H G B m S) Q) : mv_rq l G M d pc L (.ref m :: st) (md_H G B m S) Q :=
  q_getf (k := k) (T := TX13) (C0 := RX13) (N := 88) (ci := 15) hd hlk rfl uin_RX13 hk hre md_obj ((md_fs_at hk).trans (congrArg some (md_vi hi))) k0
theorem r_geta (k : Nat) {idx : Nat} {q : Nat × Nat} (hd : decode M.2.1 pc = .ok (.getfield idx, 3)) (hlk : Cond.fieldLink M.1.cls idx RX13 (TX13 k).2.1 (TX13 k).2.2.1 ∈ lw_tbl) (hk : k < 88) (hre : (TX13 k).1 = RX13) (hi : md_k k = some q)
    (k0 : mv_rq l G M d (pc + 3) L (.ref (m + md_ad k) :: st) (md_H G B m S) Q) : mv_rq l G M d pc L (.ref m :: st) (md_H G B m S) Q :=
  q_getf (k := k) (T := TX13) (C0 := RX13) (N := 88) (ci := 15) hd hlk rfl uin_RX13 hk hre md_obj ((md_fs_at hk).trans (congrArg some (md_va hi))) k0
theorem r_puti (k : Nat) {idx : Nat} {v : Int32} (ty : FieldType) (hd : decode M.2.1 pc = .ok (.putfield idx, 3)) (hlk : Cond.fieldLink M.1.cls idx RX13 (TX13 k).2.1 (TX13 k).2.2.1 ∈ lw_tbl) (hk : k < 88) (hre : (TX13 k).1 = RX13) (hi : md_k k = none) (hfin : (TX13 k).2.2.2 = false) (hpd : parseFieldDescriptor (TX13 k).2.2.1 = some ty) (hn : narrow ty (.int v) = .int v) (hfit : fits ty (.int v) = true) (hm : G.2.2.1 ≤ m)
    (k0 : ∀ S1, S1 = md_p S k v → mv_rq l G M d (pc + 3) L st (md_H G B m S1) Q) : mv_rq l G M d pc L (.int v :: .ref m :: st) (md_H G B m S) Q := by
  refine q_putf (k := k) (T := TX13) (C0 := RX13) (N := 88) (ci := 15) (ty := ty) tyX13 tyX13_ok nmX13 hd hlk rfl uin_RX13 hk hre hfin hpd hn hfit hm md_obj (by rw [md_fs_len]; exact hk) ?_
  rw [md_set_o hi]
  exact k0 _ rfl
theorem r_iald (hG : mv_ok G) (k : Nat) {n : Nat} {i : Int32} (hd : decode M.2.1 pc = .ok (.iaload, 1)) (hk : md_k k = some (1, n)) (hi : md_in i n)
    (k0 : mv_rq l G M d (pc + 1) L (.int (S.2 k i.toNatClampNeg) :: st) (md_H G B m S) Q) : mv_rq l G M d pc L (.int i :: .ref (m + md_ad k) :: st) (md_H G B m S) Q :=
  q_iald (t0 := 1) hd (mv_tI hG) (md_arr hk) hi k0
theorem r_bald (hG : mv_ok G) (k : Nat) {n : Nat} {i : Int32} (hd : decode M.2.1 pc = .ok (.baload, 1)) (hk : md_k k = some (0, n)) (hi : md_in i n)
    (k0 : mv_rq l G M d (pc + 1) L (.int (S.2 k i.toNatClampNeg) :: st) (md_H G B m S) Q) : mv_rq l G M d pc L (.int i :: .ref (m + md_ad k) :: st) (md_H G B m S) Q :=
  q_bald (t0 := 0) hd (mv_tB hG) (md_arr hk) hi k0
theorem r_zald (hG : mv_ok G) (k : Nat) {n : Nat} {i : Int32} (hd : decode M.2.1 pc = .ok (.baload, 1)) (hk : md_k k = some (2, n)) (hi : md_in i n)
    (k0 : mv_rq l G M d (pc + 1) L (.int (S.2 k i.toNatClampNeg) :: st) (md_H G B m S) Q) : mv_rq l G M d pc L (.int i :: .ref (m + md_ad k) :: st) (md_H G B m S) Q :=
  q_zald (t0 := 2) hd (mv_tZ hG) (md_arr hk) hi k0
theorem r_iast (hG : mv_ok G) (hm : G.2.2.1 ≤ m) (k : Nat) {n : Nat} {i x : Int32} (hd : decode M.2.1 pc = .ok (.iastore, 1)) (hk : md_k k = some (1, n)) (hi : md_in i n)
    (k0 : ∀ S1, S1 = md_w S k i.toNatClampNeg x → mv_rq l G M d (pc + 1) L st (md_H G B m S1) Q) : mv_rq l G M d pc L (.int x :: .int i :: .ref (m + md_ad k) :: st) (md_H G B m S) Q := by
  refine q_iast (t0 := 1) hd (mv_tI hG) (by omega) (md_arr hk) hi ?_
  rw [md_set_a hk]
  exact k0 _ rfl
theorem r_bast (hG : mv_ok G) (hm : G.2.2.1 ≤ m) (k : Nat) {n : Nat} {i x : Int32} (hd : decode M.2.1 pc = .ok (.bastore, 1)) (hk : md_k k = some (0, n)) (hi : md_in i n)
    (k0 : ∀ S1, S1 = md_w S k i.toNatClampNeg (vp_nar .byte x) → mv_rq l G M d (pc + 1) L st (md_H G B m S1) Q) : mv_rq l G M d pc L (.int x :: .int i :: .ref (m + md_ad k) :: st) (md_H G B m S) Q := by
  refine q_bast (t0 := 0) hd (mv_tB hG) (by omega) (md_arr hk) hi ?_
  rw [md_set_a hk]
  exact k0 _ rfl
theorem r_zast (hG : mv_ok G) (hm : G.2.2.1 ≤ m) (k : Nat) {n : Nat} {i x : Int32} (hd : decode M.2.1 pc = .ok (.bastore, 1)) (hk : md_k k = some (2, n)) (hi : md_in i n)
    (k0 : ∀ S1, S1 = md_w S k i.toNatClampNeg (vp_nar .boolean x) → mv_rq l G M d (pc + 1) L st (md_H G B m S1) Q) : mv_rq l G M d pc L (.int x :: .int i :: .ref (m + md_ad k) :: st) (md_H G B m S) Q := by
  refine q_zast (t0 := 2) hd (mv_tZ hG) (by omega) (md_arr hk) hi ?_
  rw [md_set_a hk]
  exact k0 _ rfl
end MD1
