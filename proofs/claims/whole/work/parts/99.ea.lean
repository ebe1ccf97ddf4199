/-! an array of arrays -/
theorem mv_mov_aoi : mv_mov (.arrayOver (.array .int)) := fun s U a a' hW h => by
  have e := Cond.arrayOver_setVmC (args := a) hW.alike (.array .int)
  exact e.trans h
/-- forty arrays of forty numbers, and the array that holds them -/
def mv_grid (G : mv_G) (h : mv_H) : mv_H := (h.1 + 41, h.2.1 + 1640, fun b => if b = h.1 then some (.inl (mv_t G 6, 40, .inr (.inr (.inr (.inr (fun j => some (h.1 + 1 + j))))))) else if h.1 < b ∧ b < h.1 + 41 then some (.inl (mv_t G 1, 40, .inl (fun _ => 0))) else h.2.2 b)
theorem outer_arr (c : ClassId) (N h0 : Nat) : ∀ i, Jvm.Free.Multi.outerC c N h0 i = arrV c N (fun j => if j < i then .ref (h0 + 1 + j) else .null) := by
  intro i
  induction i with
  | zero => exact arrV_new c N .null
  | succ i ih =>
    show (Jvm.Free.Multi.outerC c N h0 i).setSlot i (.ref (h0 + 1 + i)) = _
    rw [ih, arrV_store]
    congr 1
    funext j
    unfold updV
    by_cases e : j = i
    · subst e
      rw [if_pos rfl, if_pos (Nat.lt_succ_self _)]
    · rw [if_neg e]
      show (if j < i then Value.ref (h0 + 1 + j) else Value.null) = _
      by_cases e2 : j < i
      · rw [if_pos e2, if_pos (by omega)]
      · rw [if_neg e2, if_neg (by omega)]
theorem arrV_congr {c : ClassId} {N : Nat} {f g : Nat → Value} (h : ∀ j, j < N → f j = g j) : arrV c N f = arrV c N g := by
  unfold arrV
  congr 2
  funext j
  exact h j.val j.isLt
section MVU
variable {l : Launch} {G : mv_G} {M : mv_M} {d pc pc' : Nat} {L : List (Option Value)} {st st' : List Value} {h h2 : mv_H} {Q : mv_O → mv_H → Prop}
/-- an instruction that makes several cells -/
theorem mv_mk2 {kc ks : Nat} (e1 : h2.1 = h.1 + kc) (e2 : h2.2.1 = h.2.1 + ks) (eo : ∀ (a : Nat) (e : va_E), h2.2.2 a = some e → (a < h.1 ∧ h.2.2 a = some e) ∨ h.1 ≤ a)
    (hW : ∀ (p : Program) (e : Env) (R : Room) (s : State) (m : MethodId) (args : Array Value) (below : List Frame) (meth : Method) (c : Code) (H : Heap) (locs : List Loc) (cells slots : Nat) (ls : Array Slot) (Q0 : State → Prop),
      mv_ctx G M d p R s m args meth c → mv_rep G h H → mv_loc L ls → cells + kc ≤ R.cells → slots + ks ≤ R.slots →
      (∀ H1 : Heap, H1.size = H.size + kc → (∀ q : Nat, q < H.size → H1[q]? = H[q]?) → (∀ (a : Nat) (e : va_E), h.1 ≤ a → h2.2.2 a = some e → va_at G.1 vwCl (a, e) H1) → W p l e R s m args below meth c H1 locs (cells + kc) (slots + ks) Q0 (F0 m pc' ls st')) → W p l e R s m args below meth c H locs cells slots Q0 (F0 m pc ls st))
    (k : mv_rq l G M d pc' L st' h2 Q) : mv_rq l G M d pc L st h Q := by
  obtain ⟨o, h', ⟨r1, r2, r3⟩, q⟩ := k
  refine ⟨o, h', ⟨by omega, by omega, fun p e R s m args below meth c C H locs cells slots ls u0 a1 a2 a3 a4 a5 a6 a7 => ?_⟩, q⟩
  refine hW p e R s m args below meth c H locs cells slots ls _ C a1 a2 (by omega) (by omega) fun H1 z1 z2 z3 => r3 p e R s m args below meth c C H1 _ (cells + kc) (slots + ks) ls u0 ?_ a2 a3 (by omega) (by omega) a6 a7
  obtain ⟨b1, b2, b3, b4⟩ := a1
  refine ⟨by rw [z1, b1, e1], by omega, fun x hx => ?_, fun x ex hx => ?_⟩
  · rw [z2 x (by omega)]
    exact b3 x hx
  · rcases eo x ex hx with ⟨w1, w2⟩ | w
    · exact (b4 x ex w2).kept (z2 x (by rw [b1]; exact w1))
    · exact mv_is.of (z3 x ex w hx)
theorem q_multi {idx : Nat} (hG : mv_ok G) (hw : ∀ a, h.1 ≤ a → h.2.2 a = none) (hd : decode M.2.1 pc = .ok (.multianewarray idx 2, 4)) (hlk : Cond.classLink M.1.cls idx "[[I" ∈ lw_tbl) (k0 : mv_rq l G M d (pc + 4) L (.ref h.1 :: st) (mv_grid G h) Q) : mv_rq l G M d pc L (.int 40 :: .int 40 :: st) h Q := by
  refine mv_mk2 (h2 := mv_grid G h) (kc := 41) (ks := 1640) rfl rfl (fun a e he => ?_) (fun p e R s m args below meth c H locs cells slots ls Q0 C hR hl hc1 hs1 kk => ?_) k0
  · by_cases c : a < h.1
    · left
      have he' : (if a = h.1 then _ else if h.1 < a ∧ a < h.1 + 41 then _ else h.2.2 a) = some e := he
      rw [if_neg (by omega), if_neg (by omega)] at he'
      exact ⟨c, he'⟩
    · exact Or.inr (by omega)
  · intro T hT X
    obtain ⟨vm1, cA, comp, hW, hfA, hfC, hO, hI, X1, step⟩ := X.multianewarray2F C.1 (own := M.1.cls) (index := idx) (ty := .int) (mv_own C) (mv_word C hlk rfl) (C.2.2.2.2.2.2.2.2.1 _ aov_int mv_mov_aoi) (mv_word C arr_int rfl) (g := F0 m pc ls (.int 40 :: .int 40 :: st)) rfl (by rw [C.2.1]; exact hd) rfl (by decide) (by decide) (by decide) (by decide) (by decide) rfl rfl (show cells + (1 + 40) ≤ R.cells by omega) (show slots + (40 + 40 * 40) ≤ R.slots by omega)
    have tA : cA = mv_t G 6 := Option.some.inj (hfA.symm.trans ((mv_K C).2 6 _ (mv_ty hG (t := 6) rfl)).2)
    have tI : comp = mv_t G 1 := Option.some.inj (hfC.symm.trans ((mv_K C).2 1 _ (mv_ty hG (t := 1) rfl)).2)
    subst tA tI
    have hsz : (T.setVm vm1).heap = H := hT
    obtain ⟨f1, f2, f3, f4⟩ := Jvm.Free.Multi.fill_facts (T.setVm vm1) (mv_t G 6) (mv_t G 1) 40 40 (defaultValue .int) 40
    have fo := fun (a : Nat) (ha : a < (T.setVm vm1).heap.size) => Jvm.Free.Multi.fill_old (T.setVm vm1) (mv_t G 6) (mv_t G 1) 40 40 (defaultValue .int) ha 40
    have fi := Jvm.Free.Multi.fill_inner (T.setVm vm1) (mv_t G 6) (mv_t G 1) 40 40 (defaultValue .int) 40
    have os := Jvm.Free.Multi.outerC_slot (mv_t G 6) 40 (T.setVm vm1).heap.size 40
    rw [hsz] at f1 f2 fo fi os
    have hHs : H.size = h.1 := hR.1
    have hcell : ∀ (a : Nat) (e : va_E), h.1 ≤ a → (mv_grid G h).2.2 a = some e → va_at G.1 vwCl (a, e) (Jvm.Free.Multi.fill (T.setVm vm1) (mv_t G 6) (mv_t G 1) 40 40 (defaultValue .int) 40).heap := fun a e ha he => by
      have he' : (if a = h.1 then some (.inl (mv_t G 6, 40, .inr (.inr (.inr (.inr (fun j => some (h.1 + 1 + j))))))) else if h.1 < a ∧ a < h.1 + 41 then some (.inl (mv_t G 1, 40, .inl (fun _ => 0))) else h.2.2 a) = some e := he
      by_cases c : a = h.1
      · rw [if_pos c] at he'
        cases he'
        show (Jvm.Free.Multi.fill (T.setVm vm1) (mv_t G 6) (mv_t G 1) 40 40 (defaultValue .int) 40).heap[a]? = some (vp_cell _ _)
        rw [c, ← hHs, f2, vp_cell_q]
        rw [outer_arr]
        refine congrArg some (arrV_congr fun j hj => ?_)
        rw [if_pos hj]
        rfl
      · rw [if_neg c] at he'
        by_cases c2 : h.1 < a ∧ a < h.1 + 41
        · rw [if_pos c2] at he'
          cases he'
          show (Jvm.Free.Multi.fill (T.setVm vm1) (mv_t G 6) (mv_t G 1) 40 40 (defaultValue .int) 40).heap[a]? = some (vp_cell _ _)
          have ef := fi (a - (H.size + 1)) (by omega)
          rw [show H.size + 1 + (a - (H.size + 1)) = a by omega] at ef
          rw [ef, vp_cell_i]
          exact congrArg some (arrV_new _ _ _)
        · rw [if_neg c2, hw a ha] at he'
          cases he'
    obtain ⟨t, b1, b2⟩ := kk (Jvm.Free.Multi.fill (T.setVm vm1) (mv_t G 6) (mv_t G 1) 40 40 (defaultValue .int) 40).heap (by rw [f1]) (fun q hq => fo q hq) hcell _ rfl X1
    refine ⟨t, step t ?_, b2⟩
    rw [hT, hHs]
    exact b1
end MVU
def vmu (G : mv_G) (h : mv_H) (P : Nat → mv_H → Prop) : Prop := (∀ a, h.1 ≤ a → h.2.2 a = none) ∧ P h.1 (mv_grid G h)
theorem vmu_e {G : mv_G} {h : mv_H} {P : Nat → mv_H → Prop} (hq : vmu G h P) : ∃ a h1, (∀ a, h.1 ≤ a → h.2.2 a = none) ∧ a = h.1 ∧ h1 = mv_grid G h ∧ P a h1 := ⟨_, _, hq.1, rfl, rfl, hq.2⟩
