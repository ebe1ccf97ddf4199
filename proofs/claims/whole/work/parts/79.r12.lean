theorem rsL_in {t : List Nat} (ht : tOk t) {qt br b : Nat} (q0 : qt ≠ 0) : ∀ {k p q : Nat}, rsL t qt br b k p = .inl q → p ≤ q ∧ q < t.length := by
  intro k
  induction k with
  | zero =>
    intro p q h
    rw [rsL] at h
    split at h
    next e => cases h; exact ⟨Nat.le_refl _, lk_lt e q0⟩
    · split at h <;> cases h
  | succ k ih =>
    intro p q h
    rw [rsL] at h
    split at h
    next e => cases h; exact ⟨Nat.le_refl _, lk_lt e q0⟩
    · split at h
      · cases h
      · have := ih h; omega
theorem rdS_in {t : List Nat} (ht : tOk t) {qt br p q : Nat} (q0 : qt ≠ 0) (h : rdS t qt br p = .inl q) : p + 1 ≤ q ∧ q < t.length ∧ q ≤ p + 9 := by
  refine ⟨?_, ?_, rdS_8 h⟩ <;> unfold rdS at h <;> split at h
  · exact (rsL_in ht q0 h).1
  · cases h
  · exact (rsL_in ht q0 h).2
  · cases h
theorem exW_in {t v : List Nat} (hv : ∀ j, j < v.length → lk v j ≠ 0) : ∀ (m i q q' : Nat), i + m = v.length → exW t v m i q = .inl q' → q ≤ q' ∧ (q ≤ t.length → q' ≤ t.length) := by
  intro m
  induction m with
  | zero => intro i q q' _ z; cases z; exact ⟨Nat.le_refl _, id⟩
  | succ m ih =>
    intro i q q' hi z
    rw [exW] at z
    split at z
    next e =>
      have h1 := ih _ _ _ (by omega) z
      have h2 := lk_lt e (hv i (by omega))
      exact ⟨by omega, fun _ => h1.2 (by omega)⟩
    · cases z
theorem rdN_le {t : List Nat} (ht : tOk t) {lim p p' : Nat} {v : Int32} (hp : p ≤ t.length) (h : rdN t lim p = .inl (v, p')) : p' ≤ t.length := by
  unfold rdN at h
  simp only at h
  by_cases z1 : lk t p ≠ 45 ∧ lk t p = 48
  · rw [if_pos z1] at h
    cases h
    exact lk_lt z1.2 (by decide)
  · rw [if_neg z1] at h
    have hp1 : (if lk t p = 45 then p + 1 else p) ≤ t.length := by
      split
      next e => exact lk_lt e (by decide)
      · exact hp
    by_cases z2 : ¬ isDg t (if lk t p = 45 then p + 1 else p) ∨ lk t (if lk t p = 45 then p + 1 else p) = 48
    · rw [if_pos z2] at h; cases h
    · rw [if_neg z2] at h
      by_cases z3 : isDg t (rdD t lim (if lk t p = 45 then p + 1 else p) 0).1
      · rw [if_pos z3] at h; cases h
      · rw [if_neg z3] at h
        have := (Prod.mk.inj (Sum.inl.inj h)).2
        rw [← this]; exact rdD_le hp1
theorem rdP_ok {t : List Nat} (ht : tOk t) {p p' : Nat} {kd sz : Int32} {tx : List Nat} {qt br : Nat} (q0 : qt ≠ 0) (hp : p ≤ t.length) (h : rdP t qt br p = .inl (kd, sz, tx, p')) : p ≤ p' ∧ p' ≤ t.length ∧ (kd = 0 ∨ kd = 1 ∨ kd = 2 ∨ kd = 3 ∨ kd = 4) ∧ (kd = 4 → tx = sl t (p + 1) tx.length ∧ sz = nI tx.length ∧ p + 1 + tx.length ≤ t.length ∧ tx.length ≤ 8) ∧ (kd ≠ 4 → tx = []) ∧ (kd ≠ 3 → kd ≠ 4 → sz = 0) := by
  unfold rdP at h
  have w : ∀ {v : List Nat} {k : Int32}, (∀ j, j < v.length → lk v j ≠ 0) → rdW t v k p = .inl (kd, sz, tx, p') → kd = k ∧ sz = 0 ∧ tx = [] ∧ p ≤ p' ∧ p' ≤ t.length := fun {v k} hv hh => by
    unfold rdW at hh
    split at hh
    next q e =>
      cases hh
      have := exW_in hv _ _ _ _ (by omega) e
      exact ⟨rfl, rfl, rfl, this.1, this.2 hp⟩
    · cases hh
  split at h
  · split at h
    next q e =>
      cases h
      obtain ⟨a, b, c⟩ := rdS_in ht q0 e
      have hl : (sl t (p + 1) (q - (p + 1))).length = q - (p + 1) := sl_len (by omega)
      refine ⟨by omega, by omega, by decide, fun _ => ?_, fun z => absurd rfl z, fun _ z => absurd rfl z⟩
      show sl t (p + 1) (q - (p + 1)) = sl t (p + 1) (sl t (p + 1) (q - (p + 1))).length ∧ nI (q - (p + 1)) = nI (sl t (p + 1) (q - (p + 1))).length ∧ p + 1 + (sl t (p + 1) (q - (p + 1))).length ≤ t.length ∧ (sl t (p + 1) (q - (p + 1))).length ≤ 8
      rw [hl]
      exact ⟨rfl, rfl, by omega, by omega⟩
    · cases h
  · split at h
    · obtain ⟨a, b, c, d, e⟩ := w (v := tNull) (by decide) h
      subst a; exact ⟨d, e, by decide, fun z => absurd z (by decide), fun _ => c, fun _ _ => b⟩
    · split at h
      · obtain ⟨a, b, c, d, e⟩ := w (v := tFalse) (by decide) h
        subst a; exact ⟨d, e, by decide, fun z => absurd z (by decide), fun _ => c, fun _ _ => b⟩
      · split at h
        · obtain ⟨a, b, c, d, e⟩ := w (v := tTrue) (by decide) h
          subst a; exact ⟨d, e, by decide, fun z => absurd z (by decide), fun _ => c, fun _ _ => b⟩
        · split at h
          next v q e =>
            cases h
            exact ⟨Nat.le_of_lt (rdN_lt e), rdN_le ht hp e, by decide, fun z => absurd z (by decide), fun _ => rfl, fun z => absurd rfl z⟩
          · cases h
def chR (r r' : nR) : Prop := nkd r' = nkd r ∧ ntx r' = ntx r ∧ nnm r' = nnm r ∧ nou r' = nou r ∧ npl r' = npl r ∧ nbe r' = nbe r ∧ nfi r' = nfi r
theorem chR.rf {r : nR} : chR r r := ⟨rfl, rfl, rfl, rfl, rfl, rfl, rfl⟩
theorem chR.tr {a b c : nR} (h : chR a b) (k : chR b c) : chR a c := by
  obtain ⟨h1, h2, h3, h4, h5, h6, h7⟩ := h
  obtain ⟨k1, k2, k3, k4, k5, k6, k7⟩ := k
  exact ⟨k1.trans h1, k2.trans h2, k3.trans h3, k4.trans h4, k5.trans h5, k6.trans h6, k7.trans h7⟩
def ouOk (t : List Nat) (g : Nat → Nat) (D : dS) (lv : Nat) (ou : Option Nat) (nm : List Nat) : Prop := (∀ o, ou = some o → o < D.1 ∧ isB (nkd (D.2 o)) ∧ nfi (D.2 o) = none ∧ g o + 1 + lv = 6 ∧ (nkd (D.2 o) = 6 → ∀ k, k < D.1 → nou (D.2 k) = some o → nnm (D.2 k) ≠ nm)) ∧ (ou = none → lv = 6) ∧ (nm = [] ∨ ∃ a m, m ≤ 8 ∧ a + m ≤ t.length ∧ nm = sl t a m)
def grow (t : List Nat) (g : Nat → Nat) (D D' : dS) (ou : Option Nat) (p p' : Nat) : Prop := ∃ g', (∀ k, k < D.1 → g' k = g k) ∧ dI t g' D' ∧ D.1 < D'.1 ∧ p ≤ p' ∧ p' ≤ t.length ∧ (∀ k, k < D.1 → ou ≠ some k → D'.2 k = D.2 k) ∧ (∀ k, k < D.1 → chR (D.2 k) (D'.2 k)) ∧ ∀ k, D.1 ≤ k → k < D'.1 → nfi (D'.2 k) ≠ none ∧ gN g ou ≤ g' k ∧ (nou (D'.2 k) = none → k = D.1 ∧ ou = none)
def VI (t : List Nat) (lv : Nat) : Prop := ∀ (g : Nat → Nat) (D : dS) (p : Nat) (ou : Option Nat) (nm : List Nat) (D' : dS) (p' : Nat), dI t g D → ouOk t g D lv ou nm → p ≤ t.length → pV t lv D p ou nm = .inl (D', p') → grow t g D D' ou p p'
theorem EIl {t : List Nat} (ht : tOk t) {lv n : Nat} {ob : Bool} (hV : VI t lv) : ∀ (kf : Nat) (g : Nat → Nat) (D : dS) (p : Nat) (D' : dS) (p' : Nat), dI t g D → n < D.1 → nkd (D.2 n) = obK ob → nfi (D.2 n) = none → g n + 1 + lv = 6 → p ≤ t.length → pE t (fun D p nm => pV t lv D p (some n) nm) ob n kf D p = .inl (D', p') → grow t g D D' (some n) p p' := by
  intro kf
  induction kf with
  | zero => intro g D p D' p' h hn hk hf hg hp hq; cases hq
  | succ kf ih =>
    intro g D p D' p' h hn hk hf hg hp hq
    rw [pE] at hq
    have hB : isB (nkd (D.2 n)) := by rw [hk]; cases ob; exact Or.inl rfl; exact Or.inr rfl
    split at hq
    · cases hq
    next nm p1 hH =>
      have hh : p ≤ p1 ∧ p1 ≤ t.length ∧ (nkd (D.2 n) = 6 → ∀ k, k < D.1 → nou (D.2 k) = some n → nnm (D.2 k) ≠ nm) ∧ (nm = [] ∨ ∃ a m, m ≤ 8 ∧ a + m ≤ t.length ∧ nm = sl t a m) := by
        unfold pH at hH
        cases ob with
        | false =>
          rw [if_neg (by decide)] at hH
          cases hH
          exact ⟨Nat.le_refl _, hp, fun z => absurd (hk.symm.trans z) (by decide), Or.inl rfl⟩
        | true =>
          rw [if_pos rfl] at hH
          unfold rdMem at hH
          have hg := bl_ge ht p
          split at hH
          · cases hH
          next q e =>
            obtain ⟨x1, x2, x3⟩ := rdS_in ht (by decide) e
            have hq2 := bl_ge ht (q + 1)
            split at hH
            · cases hH
            next hx =>
              split at hH
              next h58 =>
                cases hH
                have := lk_lt h58 (by decide)
                refine ⟨by omega, by omega, fun _ k hk2 ho hnm => ?_, Or.inr ⟨_, _, by omega, by omega, rfl⟩⟩
                have hx' : kidN D n (sl t (bl t p + 1) (q - (bl t p + 1))) = none := Classical.byContradiction hx
                unfold kidN at hx'
                rw [List.find?_eq_none] at hx'
                refine hx' k ?_ (by simpa using hnm)
                rw [h.2.2.1 n hn]
                exact kF_m.mpr ⟨hk2, ho⟩
              · cases hH
      split at hq
      · cases hq
      next D1 p2 hv =>
        obtain ⟨g1, a1, a2, a3, a4, a5, a6, a7, a8⟩ := hV g D p1 (some n) nm D1 p2 h ⟨fun o ho => by cases ho; exact ⟨hn, hB, hf, hg, hh.2.2.1⟩, fun z => (nomatch z), hh.2.2.2⟩ hh.2.1 hv
        split at hq
        next hc =>
          have hlt := lk_lt hc.2 (by decide)
          have c7 := a7 n hn
          obtain ⟨g2, b1, b2, b3, b4, b5, b6, b7, b8⟩ := ih g1 D1 (p2 + 1) D' p' a2 (by omega) (by rw [c7.1]; exact hk) (by rw [c7.2.2.2.2.2.2]; exact hf) (by rw [a1 n hn]; exact hg) (by omega) hq
          refine ⟨g2, fun k hk => (b1 k (by omega)).trans (a1 k hk), b2, by omega, by omega, b5, fun k hk e => (b6 k (by omega) e).trans (a6 k hk e), fun k hk => (a7 k hk).tr (b7 k (by omega)), fun k h1 h2 => ?_⟩
          by_cases e : k < D1.1
          · rw [(b7 k e).2.2.2.2.2.2, (b7 k e).2.2.2.1, b1 k e]; exact a8 k h1 e
          · have := b8 k (by omega) h2
            refine ⟨this.1, ?_, fun z => (nomatch (this.2.2 z).2)⟩
            have h3 := this.2.1
            show g n + 1 ≤ g2 k
            have h4 : g1 n + 1 ≤ g2 k := h3
            rw [a1 n hn] at h4
            exact h4
        · by_cases hc' : lk t p2 = obC ob
          · rw [if_pos (show lk t p2 = (if ob = true then 125 else 93) from hc')] at hq
            have hlt := lk_lt hc' (by cases ob <;> decide)
            cases hq
            exact ⟨g1, a1, a2, a3, by omega, by omega, a6, a7, a8⟩
          · rw [if_neg (show ¬ lk t p2 = (if ob = true then 125 else 93) from hc')] at hq
            cases hq
theorem VIl {t : List Nat} (ht : tOk t) : ∀ lv, lv ≤ 6 → VI t lv := by
  have leaf : ∀ (lv : Nat) (g : Nat → Nat) (D : dS) (p : Nat) (ou : Option Nat) (nm : List Nat) (D' : dS) (p' : Nat), lv ≤ 6 → dI t g D → ouOk t g D lv ou nm → p ≤ t.length → D.1 < 40 → pF t D.1 (pL t D.1 (addD D ou nm (bl t p)) (bl t p)) = .inl (D', p') → grow t g D D' ou p p' := by
    intro lv g D p ou nm D' p' hlv h ho hp h40 hq
    have hbp := bl_le (t := t) hp
    have hbg := bl_ge ht p
    unfold pF at hq
    split at hq
    · cases hq
    next D1 p1 hr =>
      cases hq
      unfold pL at hr
      split at hr
      · cases hr
      next kd sz tx p2 hr2 =>
        cases hr
        obtain ⟨x1, x2, x3, x4, x5, x6⟩ := rdP_ok ht (by decide) hbp hr2
        obtain ⟨g', y1, y2, y3, y4⟩ := dI_add (be := bl t p) h h40 (fun o e => by have := ho.1 o e; exact ⟨this.1, this.2.1, this.2.2.1, by omega, this.2.2.2.2⟩) ho.2.2
        obtain ⟨pl, hs⟩ := addD_s (D := D) (ou := ou) (nm := nm) (be := bl t p)
        have hd1 : (addD D ou nm (bl t p)).1 = D.1 + 1 := addD1
        have nB : kd ≠ 3 ∧ kd ≠ 4 → sz = 0 := fun z => x6 z.1 z.2
        have u1 : dI t g' (setP (addD D ou nm (bl t p)) D.1 kd sz tx) := dI_U y4 (by rw [hd1]; omega) (by rw [hs]; rfl) nB (fun z => by rw [hs]; exact x4 z) (by rcases x3 with z | z | z | z | z <;> simp [z])
        have u2 : dI t g' (setF (setP (addD D ou nm (bl t p)) D.1 kd sz tx) D.1 p1) := dI_F u1 (by show D.1 < (addD D ou nm (bl t p)).1; rw [hd1]; omega) (by
          have : nbe ((setP (addD D ou nm (bl t p)) D.1 kd sz tx).2 D.1) = bl t p := by
            unfold setP
            rw [dU_s, hs]
            rfl
          rw [this]; exact x1) x2 (fun j h1 h2 => by
            have : j < (addD D ou nm (bl t p)).1 := h2
            rw [hd1] at this; omega)
        have hb2 := bl_le (t := t) x2
        have hb3 := bl_ge ht p1
        have hold : ∀ k, k < D.1 → (setF (setP (addD D ou nm (bl t p)) D.1 kd sz tx) D.1 p1).2 k = (addD D ou nm (bl t p)).2 k := fun k hk => by
          unfold setF
          rw [dU_n (by omega)]
          unfold setP
          rw [dU_n (by omega)]
        refine ⟨g', y1, u2, by show D.1 < (addD D ou nm (bl t p)).1; rw [hd1]; omega, by omega, hb2, fun k hk e => ?_, fun k hk => ?_, fun k h1 h2 => ?_⟩
        · rw [hold k hk, addD_n (by omega), if_neg e]
        · rw [hold k hk, addD_n (by omega)]
          split
          · exact ⟨rfl, rfl, rfl, rfl, rfl, rfl, rfl⟩
          · exact chR.rf
        · have h2' : k < D.1 + 1 := by
            have : k < (addD D ou nm (bl t p)).1 := h2
            rw [hd1] at this; exact this
          have : k = D.1 := by omega
          subst this
          refine ⟨?_, ?_, fun z => ⟨rfl, ?_⟩⟩
          · unfold setF
            rw [dU_s]
            exact fun z => nomatch z
          · cases ou with
            | none => exact Nat.zero_le _
            | some o => exact Nat.le_of_eq (y2 o rfl).symm
          · unfold setF at z
            rw [dU_s] at z
            unfold setP at z
            rw [dU_s, hs] at z
            exact z
  intro lv
  induction lv with
  | zero =>
    intro hlv g D p ou nm D' p' h ho hp hq
    unfold pV at hq
    split at hq
    · cases hq
    next h40 =>
      split at hq
      · cases hq
      · exact leaf 0 g D p ou nm D' p' (by omega) h ho hp (by omega) hq
  | succ lv ih =>
    intro hlv g D p ou nm D' p' h ho hp hq
    have hbp := bl_le (t := t) hp
    have hbg := bl_ge ht p
    unfold pV at hq
    split at hq
    · cases hq
    next h40 =>
      split at hq
      next hb =>
        obtain ⟨ob, hob⟩ : ∃ ob, (lk t (bl t p) == 123) = ob := ⟨_, rfl⟩
        rw [hob] at hq
        have hlt : bl t p < t.length := lk_lt (rfl : lk t (bl t p) = lk t (bl t p)) (by omega)
        have hbl1 := bl_le (t := t) (p := bl t p + 1) (by omega)
        have hbg1 := bl_ge ht (bl t p + 1)
        obtain ⟨g', y1, y2, y3, y4⟩ := dI_add (be := bl t p) h (by omega) (fun o e => by have := ho.1 o e; exact ⟨this.1, this.2.1, this.2.2.1, by omega, this.2.2.2.2⟩) ho.2.2
        obtain ⟨pl, hs⟩ := addD_s (D := D) (ou := ou) (nm := nm) (be := bl t p)
        have hd1 : (addD D ou nm (bl t p)).1 = D.1 + 1 := addD1
        have hK : setK (addD D ou nm (bl t p)) D.1 (obK ob) = setP (addD D ou nm (bl t p)) D.1 (obK ob) 0 [] := by
          unfold setK setP
          rw [hs]
          rfl
        have u1 : dI t g' (setK (addD D ou nm (bl t p)) D.1 (obK ob)) := by
          rw [hK]
          exact dI_U y4 (by rw [hd1]; omega) (by rw [hs]; rfl) (fun _ => rfl) (fun z => by cases ob <;> exact absurd z (by decide)) (by
            refine Or.inr (Or.inr (Or.inr (Or.inr (Or.inr ?_))))
            cases ob
            · exact Or.inl rfl
            · exact Or.inr rfl)
        have hgn : g' D.1 + 1 + lv = 6 := by
          cases ou with
          | none => rw [y3 rfl]; have := ho.2.1 rfl; omega
          | some o => rw [y2 o rfl]; have := (ho.1 o rfl).2.2.2.1; omega
        have hr : (setK (addD D ou nm (bl t p)) D.1 (obK ob)).2 D.1 = (obK ob, (nwR nm ou pl (bl t p)).2) := by
          unfold setK
          rw [dU_s, hs]
        have hold : ∀ k, k < D.1 → (setK (addD D ou nm (bl t p)) D.1 (obK ob)).2 k = (addD D ou nm (bl t p)).2 k := fun k hk => by
          unfold setK
          rw [dU_n (by omega)]
        have key : ∀ (D2 : dS) (p2 : Nat), (D2 = setK (addD D ou nm (bl t p)) D.1 (obK ob) ∧ bl t p ≤ p2 ∧ p2 ≤ t.length) ∨ grow t g' (setK (addD D ou nm (bl t p)) D.1 (obK ob)) D2 (some D.1) (bl t (bl t p + 1)) p2 → grow t g D (setF D2 D.1 p2) ou p (bl t p2) := by
          intro D2 p2 hc
          have hx : ∃ g2, (∀ k, k < D.1 + 1 → g2 k = g' k) ∧ dI t g2 D2 ∧ D.1 + 1 ≤ D2.1 ∧ bl t p ≤ p2 ∧ p2 ≤ t.length ∧ (∀ k, k < D.1 → D2.2 k = (addD D ou nm (bl t p)).2 k) ∧ (nbe (D2.2 D.1) = bl t p ∧ nou (D2.2 D.1) = ou) ∧ ∀ k, D.1 + 1 ≤ k → k < D2.1 → nfi (D2.2 k) ≠ none ∧ g' D.1 + 1 ≤ g2 k ∧ nou (D2.2 k) ≠ none := by
            rcases hc with ⟨rfl, c1, c2⟩ | ⟨g2, b1, b2, b3, b4, b5, b6, b7, b8⟩
            · exact ⟨g', fun _ _ => rfl, u1, Nat.le_of_eq hd1.symm, c1, c2, hold, ⟨by rw [hr]; rfl, by rw [hr]; rfl⟩, fun k h1 h2 => by
                have : k < (addD D ou nm (bl t p)).1 := h2
                rw [hd1] at this; omega⟩
            · have e1 : (setK (addD D ou nm (bl t p)) D.1 (obK ob)).1 = D.1 + 1 := hd1
              rw [e1] at b1 b3 b6 b7 b8
              refine ⟨g2, b1, b2, by omega, by omega, b5, fun k hk => ?_, ⟨?_, ?_⟩, fun k h1 h2 => ⟨(b8 k (by omega) h2).1, (b8 k (by omega) h2).2.1, fun z => (nomatch ((b8 k (by omega) h2).2.2 z).2)⟩⟩
              · rw [b6 k (by omega) (fun z => by cases z; omega), hold k hk]
              · rw [(b7 D.1 (by omega)).2.2.2.2.2.1, hr]; rfl
              · rw [(b7 D.1 (by omega)).2.2.2.1, hr]; rfl
          obtain ⟨g2, z1, z2, z3, z4, z5, z6, z7, z8⟩ := hx
          have hb2 := bl_le (t := t) z5
          have hb3 := bl_ge ht p2
          refine ⟨g2, fun k hk => (z1 k (by omega)).trans (y1 k hk), dI_F z2 (by omega) (by rw [z7.1]; exact z4) z5 (fun j h1 h2 => by rw [z1 D.1 (by omega)]; exact (z8 j (by omega) h2).2.1), by show D.1 < D2.1; omega, by omega, hb2, fun k hk e => ?_, fun k hk => ?_, fun k h1 h2 => ?_⟩
          · unfold setF
            rw [dU_n (by omega), z6 k hk, addD_n (by omega), if_neg e]
          · unfold setF
            rw [dU_n (by omega), z6 k hk, addD_n (by omega)]
            split
            · exact ⟨rfl, rfl, rfl, rfl, rfl, rfl, rfl⟩
            · exact chR.rf
          · by_cases e : k = D.1
            · subst e
              refine ⟨?_, ?_, fun z => ⟨rfl, ?_⟩⟩
              · unfold setF
                rw [dU_s]
                exact fun z => nomatch z
              · rw [z1 D.1 (by omega)]
                cases ou with
                | none => exact Nat.zero_le _
                | some o => exact Nat.le_of_eq (y2 o rfl).symm
              · unfold setF at z
                rw [dU_s] at z
                exact z7.2.symm.trans z
            · unfold setF
              rw [dU_n e]
              refine ⟨(z8 k (by omega) h2).1, ?_, fun z => absurd z (z8 k (by omega) h2).2.2⟩
              have hh := (z8 k (by omega) h2).2.1
              have : gN g ou ≤ g' D.1 := by
                cases ou with
                | none => exact Nat.zero_le _
                | some o => exact Nat.le_of_eq (y2 o rfl).symm
              omega
        unfold pF at hq
        split at hq
        · cases hq
        next D2 p2 hr2 =>
          cases hq
          unfold pB at hr2
          by_cases hcl' : lk t (bl t (bl t p + 1)) = obC ob
          · rw [if_pos (show lk t (bl t (bl t p + 1)) = (if ob = true then 125 else 93) from hcl')] at hr2
            cases hr2
            have := lk_lt hcl' (by cases ob <;> decide)
            exact key _ _ (Or.inl ⟨rfl, by omega, by omega⟩)
          · rw [if_neg (show ¬ lk t (bl t (bl t p + 1)) = (if ob = true then 125 else 93) from hcl')] at hr2
            refine key _ _ (Or.inr ?_)
            refine EIl ht (ih (by omega)) (ob := ob) 40 g' _ _ _ _ u1 (by show D.1 < (addD D ou nm (bl t p)).1; rw [hd1]; omega) (by rw [hr]) (by rw [hr]; rfl) hgn hbl1 hr2
      · exact leaf (lv + 1) g D p ou nm D' p' hlv h ho hp (by omega) hq
/-- what holds of a document that was read -/
def dW (t : List Nat) (D : dS) : Prop := (∃ g, dI t g D) ∧ 0 < D.1 ∧ ∀ n, n < D.1 → nfi (D.2 n) ≠ none ∧ (nou (D.2 n) = none → n = 0)
theorem pD_dW {t : List Nat} (ht : tOk t) {D : dS} (h : pD t = .inl D) : dW t D := by
  unfold pD at h
  split at h
  · cases h
  next D1 p hr =>
    split at h
    · cases h
    · cases h
      have h0 : dI t (fun _ => 0) (0, fun _ => nR0) := ⟨⟨by simp, fun k hk => absurd hk (by simp)⟩, fun k hk => absurd hk (by simp), fun k hk => absurd hk (by simp), fun k hk => absurd hk (by simp), fun k o hk => absurd hk (by simp), fun k _ _ hk => absurd hk (by simp), fun j k n hk => absurd hk (by simp), fun k hk => absurd hk (by simp), fun k hk => absurd hk (by simp)⟩
      obtain ⟨g', a1, a2, a3, a4, a5, a6, a7, a8⟩ := VIl ht 6 (by omega) (fun _ => 0) (0, fun _ => nR0) 0 none [] D p h0 ⟨fun o z => (nomatch z), fun _ => rfl, Or.inl rfl⟩ (by omega) hr
      exact ⟨⟨g', a2⟩, a3, fun n hn => ⟨(a8 n (by simp) hn).1, fun z => ((a8 n (by simp) hn).2.2 z).1⟩⟩
