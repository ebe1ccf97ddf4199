/-! pieces of the run, and how they follow each other -/
def RN {α : Type} (bo : Nat) (t : List Nat) (D : dS) (tq : List Nat) (Q : cQ) (P : md_S → Prop) (x : eR α) (R : α → md_S → md_S → Prop) : Prop :=
  ∃ j, j ≤ bo ∧ ∀ N, 3000 + kB 7 ≤ N → ∀ (S : md_S) (G : Nat), rSt t D tq Q S → S.1 60 = 0 → S.1 61 = nI G → G ≤ 1000000 → P S →
    (∀ a k, x = some (a, k) → G + k ≤ 1000000 → ∃ S', (∀ n, mo_find_l81 N (n + j) S = mo_find_l81 N n S') ∧ S'.1 60 = 0 ∧ S'.1 61 = nI (G + k) ∧ rF KM S S' ∧ R a S S') ∧
    ((x = none ∨ ∃ a k, x = some (a, k) ∧ 1000000 < G + k) → ∃ S', (∀ n, mo_find_l81 N (n + j + 1) S = mo_find_j102 N S') ∧ S'.1 60 = 1 ∧ rF KM S S')
theorem KM_ge {k : Nat} (z : k ∈ KM) : 59 ≤ k := by
  unfold KM at z
  simp at z
  omega
theorem KM_in {k : Nat} (h : 59 ≤ k) (h2 : k ≤ 83) : k ∈ KM := by
  unfold KM
  simp
  omega
theorem rSt.km {t : List Nat} {D : dS} {tq : List Nat} {Q : cQ} {S S' : md_S} (h : rSt t D tq Q S) (f : rF KM S S') : rSt t D tq Q S' := h.f f (fun _ z => KM_ge z)
theorem RN.bd {α β : Type} {b1 b2 : Nat} {t : List Nat} {D : dS} {tq : List Nat} {Q : cQ} {P : md_S → Prop} {x : eR α} {R1 : α → md_S → md_S → Prop} {f : α → eR β} {P2 : α → md_S → Prop} {R2 : α → β → md_S → md_S → Prop} {R : β → md_S → md_S → Prop} (h : RN b1 t D tq Q P x R1) (h2 : ∀ a k, x = some (a, k) → (∃ S S', P S ∧ R1 a S S') → RN b2 t D tq Q (P2 a) (f a) (R2 a)) (hP : ∀ a S S', P S → R1 a S S' → P2 a S') (hR : ∀ a b S S' S'', P S → R1 a S S' → R2 a b S' S'' → R b S S'') : RN (b1 + b2) t D tq Q P (eB x f) R := by
  obtain ⟨j1, l1, a1⟩ := h
  cases x with
  | none =>
    refine ⟨j1, by omega, fun N hN S G hS h60 h61 hG hp => ⟨fun a k z => (nomatch z), fun _ => ?_⟩⟩
    exact (a1 N hN S G hS h60 h61 hG hp).2 (Or.inl rfl)
  | some q =>
    obtain ⟨a, k⟩ := q
    by_cases hex : ∃ S S', P S ∧ R1 a S S'
    · obtain ⟨j2, l2, a2⟩ := h2 a k rfl hex
      refine ⟨j2 + j1, by omega, fun N hN S G hS h60 h61 hG hp => ?_⟩
      obtain ⟨b1, b2⟩ := a1 N hN S G hS h60 h61 hG hp
      by_cases hGk : G + k ≤ 1000000
      · obtain ⟨S1, c1, c2, c3, c4, c5⟩ := b1 a k rfl hGk
        obtain ⟨d1, d2⟩ := a2 N hN S1 (G + k) (hS.km c4) c2 c3 hGk (hP a S S1 hp c5)
        refine ⟨fun b m hb hm => ?_, fun ho => ?_⟩
        · unfold eB at hb
          simp only at hb
          cases hf : f a with
          | none => rw [hf] at hb; cases hb
          | some w =>
            obtain ⟨b', i⟩ := w
            rw [hf] at hb
            simp only [Option.some.injEq, Prod.mk.injEq] at hb
            obtain ⟨rfl, rfl⟩ := hb
            obtain ⟨S2, e1, e2, e3, e4, e5⟩ := d1 b' i hf (by omega)
            refine ⟨S2, fun n => ?_, e2, by rw [e3]; congr 1; omega, c4.tr e4 (fun _ z => z) (fun _ z => z), hR a b' S S1 S2 hp c5 e5⟩
            rw [← Nat.add_assoc, c1, e1]
        · have : f a = none ∨ ∃ b i, f a = some (b, i) ∧ 1000000 < G + k + i := by
            unfold eB at ho
            simp only at ho
            cases hf : f a with
            | none => exact Or.inl rfl
            | some w =>
              obtain ⟨b', i⟩ := w
              rw [hf] at ho
              rcases ho with z | ⟨b, m, z, z2⟩
              · cases z
              · simp only [Option.some.injEq, Prod.mk.injEq] at z
                obtain ⟨rfl, rfl⟩ := z
                exact Or.inr ⟨b', i, rfl, by omega⟩
          obtain ⟨S2, e1, e2, e3⟩ := d2 this
          refine ⟨S2, fun n => ?_, e2, c4.tr e3 (fun _ z => z) (fun _ z => z)⟩
          rw [show n + (j2 + j1) + 1 = (n + j2 + 1) + j1 by omega, c1, e1]
      · obtain ⟨S1, c1, c2, c3⟩ := b2 (Or.inr ⟨a, k, rfl, by omega⟩)
        refine ⟨fun b m hb hm => ?_, fun ho => ⟨S1, fun n => ?_, c2, c3⟩⟩
        · exfalso
          unfold eB at hb
          simp only at hb
          cases hf : f a with
          | none => rw [hf] at hb; cases hb
          | some w =>
            obtain ⟨b', i⟩ := w
            rw [hf] at hb
            simp only [Option.some.injEq, Prod.mk.injEq] at hb
            omega
        · rw [← Nat.add_assoc]
          exact c1 _
    · refine ⟨j1, by omega, fun N hN S G hS h60 h61 hG hp => ?_⟩
      obtain ⟨b1, b2⟩ := a1 N hN S G hS h60 h61 hG hp
      by_cases hGk : G + k ≤ 1000000
      · obtain ⟨S1, c1, c2, c3, c4, c5⟩ := b1 a k rfl hGk
        exact absurd ⟨S, S1, hp, c5⟩ hex
      · obtain ⟨S1, c1, c2, c3⟩ := b2 (Or.inr ⟨a, k, rfl, by omega⟩)
        refine ⟨fun b m hb hm => ?_, fun ho => ⟨S1, c1, c2, c3⟩⟩
        exfalso
        unfold eB at hb
        simp only at hb
        cases hf : f a with
        | none => rw [hf] at hb; cases hb
        | some w =>
          obtain ⟨b', i⟩ := w
          rw [hf] at hb
          simp only [Option.some.injEq, Prod.mk.injEq] at hb
          omega
theorem RN.w {α : Type} {bo : Nat} {t : List Nat} {D : dS} {tq : List Nat} {Q : cQ} {P P' : md_S → Prop} {x : eR α} {R R' : α → md_S → md_S → Prop} (h : RN bo t D tq Q P x R) (hp : ∀ S, P' S → P S) (hr : ∀ a k S S', x = some (a, k) → P' S → R a S S' → R' a S S') : RN bo t D tq Q P' x R' := by
  obtain ⟨j, l, a⟩ := h
  refine ⟨j, l, fun N hN S G hS h60 h61 hG hP => ?_⟩
  obtain ⟨b1, b2⟩ := a N hN S G hS h60 h61 hG (hp S hP)
  refine ⟨fun a k hx hk => ?_, b2⟩
  obtain ⟨S', c1, c2, c3, c4, c5⟩ := b1 a k hx hk
  exact ⟨S', c1, c2, c3, c4, hr a k S S' hx hP c5⟩
theorem RN.mn {α : Type} {bo bo' : Nat} {t : List Nat} {D : dS} {tq : List Nat} {Q : cQ} {P : md_S → Prop} {x : eR α} {R : α → md_S → md_S → Prop} (h : RN bo t D tq Q P x R) (hb : bo ≤ bo') : RN bo' t D tq Q P x R := by
  obtain ⟨j, l, a⟩ := h
  exact ⟨j, Nat.le_trans l hb, a⟩
theorem RN.nil {α : Type} {bo : Nat} {t : List Nat} {D : dS} {tq : List Nat} {Q : cQ} {P : md_S → Prop} {a : α} {R : α → md_S → md_S → Prop} (h : ∀ S, P S → R a S S) : RN bo t D tq Q P (some (a, 0)) R := by
  refine ⟨0, Nat.zero_le _, fun N hN S G hS h60 h61 hG hP => ⟨fun b k hx hk => ?_, fun ho => ?_⟩⟩
  · cases hx
    exact ⟨S, fun n => rfl, h60, h61, rF.rf, h S hP⟩
  · rcases ho with z | ⟨b, k, z, z2⟩
    · cases z
    · cases z; omega
/-- one step of the machine -/
theorem RN.one {α : Type} {t : List Nat} {D : dS} {tq : List Nat} {Q : cQ} {P : md_S → Prop} {x : eR α} {R : α → md_S → md_S → Prop} (h59 : ∀ S, P S → ¬ S.1 59 ≤ 0) (h : ∀ N, 3000 + kB 7 ≤ N → ∀ (S : md_S) (G : Nat), rSt t D tq Q S → S.1 60 = 0 → S.1 61 = nI G → G ≤ 1000000 → P S → ∃ S', mo_step N S = some S' ∧ rF KM S S' ∧ (∀ a k, x = some (a, k) → G + k ≤ 1000000 → S'.1 60 = 0 ∧ S'.1 61 = nI (G + k) ∧ R a S S') ∧ ((x = none ∨ ∃ a k, x = some (a, k) ∧ 1000000 < G + k) → S'.1 60 = 1)) : RN 1 t D tq Q P x R := by
  refine ⟨1, Nat.le_refl _, fun N hN S G hS h60 h61 hG hP => ?_⟩
  obtain ⟨S', a1, a2, a3, a4⟩ := h N hN S G hS h60 h61 hG hP
  have st : ∀ n, mo_find_l81 N (n + 1) S = mo_find_l81 N n S' := fun n => by
    rw [mo_find_l81, if_neg (h59 S hP), if_pos h60, a1]
    rfl
  refine ⟨fun a k hx hk => ?_, fun ho => ⟨S', fun n => ?_, a4 ho, a2⟩⟩
  · obtain ⟨b1, b2, b3⟩ := a3 a k hx hk
    exact ⟨S', st, b1, b2, a2, b3⟩
  · rw [st, mo_find_l81]
    split
    · rfl
    · rw [if_neg (by rw [a4 ho]; decide)]
/-- a step that counts nothing and never ends the run -/
theorem RN.on0 {α : Type} {t : List Nat} {D : dS} {tq : List Nat} {Q : cQ} {P : md_S → Prop} {a : α} {R : α → md_S → md_S → Prop} (h59 : ∀ S, P S → ¬ S.1 59 ≤ 0) (h : ∀ N, 3000 + kB 7 ≤ N → ∀ (S : md_S), rSt t D tq Q S → S.1 60 = 0 → P S → ∃ S', mo_step N S = some S' ∧ rF KM S S' ∧ S'.1 60 = S.1 60 ∧ S'.1 61 = S.1 61 ∧ R a S S') : RN 1 t D tq Q P (some (a, 0)) R := by
  refine RN.one h59 fun N hN S G hS h60 h61 hG hP => ?_
  obtain ⟨S', a1, a2, a3, a4, a5⟩ := h N hN S hS h60 hP
  refine ⟨S', a1, a2, fun b k hx hk => ?_, fun ho => ?_⟩
  · cases hx
    exact ⟨a3.trans h60, a4.trans h61, a5⟩
  · rcases ho with z | ⟨b, k, z, z2⟩
    · cases z
    · cases z; omega
/-! frames -/
def lx (J : List Nat) (f : Nat) (S S' : md_S) : Prop := low f S S' ∧ (∀ k, 62 ≤ k → k ≤ 73 → k ∉ J → S'.2 k f = S.2 k f) ∧ (74 ∉ J → ∀ i, i < 300 * f + 300 → S'.2 74 i = S.2 74 i) ∧ (75 ∉ J → ∀ i, i < 300 * f + 300 → S'.2 75 i = S.2 75 i)
theorem lx.rf {J : List Nat} {f : Nat} {S : md_S} : lx J f S S := ⟨low.rf, fun _ _ _ _ => rfl, fun _ _ _ => rfl, fun _ _ _ => rfl⟩
theorem lx.tr {J J1 J2 : List Nat} {f : Nat} {A B C : md_S} (h : lx J1 f A B) (k : lx J2 f B C) (h1 : ∀ x, x ∈ J1 → x ∈ J) (h2 : ∀ x, x ∈ J2 → x ∈ J) : lx J f A C :=
  ⟨h.1.tr k.1, fun q a b z => (k.2.1 q a b (fun w => z (h2 q w))).trans (h.2.1 q a b (fun w => z (h1 q w))), fun z i hi => (k.2.2.1 (fun w => z (h2 _ w)) i hi).trans (h.2.2.1 (fun w => z (h1 _ w)) i hi), fun z i hi => (k.2.2.2 (fun w => z (h2 _ w)) i hi).trans (h.2.2.2 (fun w => z (h1 _ w)) i hi)⟩
theorem lx.mn {J J1 : List Nat} {f : Nat} {A B : md_S} (h : lx J1 f A B) (h1 : ∀ x, x ∈ J1 → x ∈ J) : lx J f A B := lx.tr h lx.rf h1 (fun _ z => (nomatch (show _ ∈ ([] : List Nat) from z)))
theorem lx.p {J : List Nat} {f : Nat} {A B : md_S} {k : Nat} {v : Int32} (h : lx J f A B) : lx J f A (md_p B k v) := h
/-- a write at the frame's own field -/
theorem lx.w {J : List Nat} {f k : Nat} {v : Int32} {A B : md_S} (h : lx J f A B) (hk : k ∈ J) (h1 : k ≠ 74) (h2 : k ≠ 75) : lx J f A (md_w B k f v) := by
  refine ⟨h.1.w (Or.inl ⟨h1, h2, Nat.le_refl _⟩), fun q a b z => ?_, fun z i hi => ?_, fun z i hi => ?_⟩
  · rw [md_w_k (fun e => z (by rw [e]; exact hk))]; exact h.2.1 q a b z
  · rw [md_w_k (fun e => h1 e.symm)]; exact h.2.2.1 z i hi
  · rw [md_w_k (fun e => h2 e.symm)]; exact h.2.2.2 z i hi
theorem lx.w7 {J : List Nat} {f k j : Nat} {v : Int32} {A B : md_S} (h : lx J f A B) (hk : k ∈ J) (h1 : k = 74 ∨ k = 75) (hj : 300 * f ≤ j) : lx J f A (md_w B k j v) := by
  refine ⟨h.1.w (Or.inr hj), fun q a b z => ?_, fun z i hi => ?_, fun z i hi => ?_⟩
  · rw [md_w_k (by omega)]; exact h.2.1 q a b z
  · rw [md_w_k (fun e => z (by rw [e]; exact hk))]; exact h.2.2.1 z i hi
  · rw [md_w_k (fun e => z (by rw [e]; exact hk))]; exact h.2.2.2 z i hi
theorem lx.fr {J K : List Nat} {f : Nat} {A B : md_S} (h : rF K A B) (hk : ∀ k, k ∈ K → k < 62 ∨ 75 < k) : lx J f A B := by
  refine ⟨⟨fun k a b i _ => ?_, fun i _ => ⟨?_, ?_⟩⟩, fun k a b _ => ?_, fun _ i _ => ?_, fun _ i _ => ?_⟩
  · rw [(h k (fun z => by have := hk k z; omega)).2]
  · rw [(h 74 (fun z => by have := hk _ z; omega)).2]
  · rw [(h 75 (fun z => by have := hk _ z; omega)).2]
  · rw [(h k (fun z => by have := hk k z; omega)).2]
  · rw [(h 74 (fun z => by have := hk _ z; omega)).2]
  · rw [(h 75 (fun z => by have := hk _ z; omega)).2]
theorem lx.lo {J : List Nat} {f : Nat} {A B : md_S} (h : low (f + 1) A B) : lx J f A B := ⟨h.mn (Nat.le_succ _), fun k a b _ => h.1 k a b f (Nat.lt_succ_self _), fun _ i hi => (h.2 i (by omega)).1, fun _ i hi => (h.2 i (by omega)).2⟩
theorem lx.ad {J : List Nat} {f : Nat} {row cs : List Nat} {A B : md_S} (h : AD f row cs A B) (h1 : 73 ∈ J) (h2 : 75 ∈ J) : lx J f A B := by
  obtain ⟨_, _, h3, h4⟩ := h
  refine ⟨h4, fun k a b z => ?_, fun z i hi => ?_, fun z => absurd h2 z⟩
  · rw [(h3 k (fun w => by
      simp at w
      rcases w with e | e | e
      · omega
      · exact z (by rw [e]; exact h1)
      · omega)).2]
  · rw [(h3 74 (by decide)).2]
theorem rRow.lx {J : List Nat} {f : Nat} {row : List Nat} {A B : md_S} (h : rRow f row A) (k : lx J f A B) (h1 : 72 ∉ J) (h2 : 74 ∉ J) : rRow f row B := ⟨by rw [k.2.1 72 (by omega) (by omega) h1]; exact h.1, h.2.1, fun i hi => by rw [k.2.2.1 h2 _ (by have := h.2.1; omega)]; exact h.2.2 i hi⟩
theorem rNxt.lx {J : List Nat} {f : Nat} {row : List Nat} {A B : md_S} (h : rNxt f row A) (k : lx J f A B) (h1 : 73 ∉ J) (h2 : 75 ∉ J) : rNxt f row B := ⟨by rw [k.2.1 73 (by omega) (by omega) h1]; exact h.1, h.2.1, fun i hi => by rw [k.2.2.2 h2 _ (by have := h.2.1; omega)]; exact h.2.2 i hi⟩
theorem rVs.lx {t tq : List Nat} {D : dS} {vs : stk} {S S' : md_S} (h : rVs t tq D vs S) (e1 : S'.1 76 = S.1 76) (e2 : S'.2 77 = S.2 77 ∧ S'.2 78 = S.2 78 ∧ S'.2 79 = S.2 79) : rVs t tq D vs S' := ⟨by rw [e1]; exact h.1, h.2.1, rVa.u (j := vs.length) (fun i _ => by rw [e2.1, e2.2.1, e2.2.2]; exact ⟨rfl, rfl, rfl⟩) (Nat.le_refl _) h.2.2⟩
