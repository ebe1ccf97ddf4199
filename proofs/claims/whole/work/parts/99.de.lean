section FE
variable {l : Launch} {G : mv_G} {f A : Nat} {t : List Nat} {D : dS} {kk : Int32} {h : mv_H}
theorem b2i_if {b : Bool} {P : Prop} [Decidable P] (hb : b = decide P) : b2i b = if P then 1 else 0 := by
  rw [hb]
  by_cases c : P
  · rw [decide_eq_true c, if_pos c]; rfl
  · rw [decide_eq_false c, if_neg c]; rfl
theorem DH.named {d n b : Nat} {g : Nat → Nat} {u : List Nat} (hG : mv_ok G) (H : DH G h A t D) (hI : dI t g D) (hn : n < D.1) (hb : mv_str G h b u) : mv_rq l G mX1_childNamed (d + 2) 0 (mv_in [.ref A, .int (nI n), .ref b] 5) [] h (fun o h1 => o = .inl (some (.int (oI (if nkd (D.2 n) = 6 then kidN D n u else none)))) ∧ h = h1) := by
  obtain ⟨k1, k2, k3, k4⟩ := hI.kids hn
  obtain ⟨s, V, I, a, bb, c⟩ := H
  exact sp_childNamed hG a bb hI.1.1 hn k1 k2 (fun z => k3 (Or.inr z)) hb
def mB (o : Option Nat) (g : Nat → Bool) : Bool := match o with
  | none => false
  | some d => g d
theorem mB_s {e : Nat} {g : Nat → Bool} : mB (some e) g = g e := rfl
/-- the children of two nodes -/
theorem eqL {d F q i j : Nat} {g : Nat → Nat} (hG : mv_ok G) (H : FS G h f A t D kk) (hI : dI t g D) (hi : i < D.1) (hj : j < D.1) (hb : isB (nkd (D.2 i))) (hk : nkd (D.2 i) = nkd (D.2 j)) (hrec : ∀ c e, c < D.1 → e < D.1 → mv_rq l G mX3_equal d 0 (mv_in [.ref f, .ref (A + 43 + c), .ref (A + 43 + e), .int (nI (q + 1))] 4) [] h (fun o h1 => o = .inl (some (.int (b2i (alk D F c e)))) ∧ h = h1)) (hd : 3 ≤ d) :
    ∀ (m k : Nat), k + m = (nki (D.2 i)).length → mv_rq l G mX3_equalChildren (d + 1) 3 [some (.ref f), some (.ref (A + 43 + i)), some (.ref (A + 43 + j)), some (.int (nI q)), some (.int (nI k)), none, none] [] h (fun o h1 => o = .inl (some (.int (b2i (alkS D (alk D F) i j ((nki (D.2 i)).drop k) k)))) ∧ h = h1) := by
  have h40 := hI.1.1
  obtain ⟨k1, k2, k3, k4⟩ := hI.kids hi
  obtain ⟨j1, j2, j3, j4⟩ := hI.kids hj
  obtain ⟨w, w0, w1, w2, _, _, _, _, _, _, w9⟩ := H.dh.vl hi h40
  obtain ⟨v, v0, v1, v2, _, _, _, _, _, _, v9⟩ := H.dh.vl hj h40
  obtain ⟨s0, V0, I0, hdc0, _⟩ := id H.dh
  obtain ⟨d, rfl⟩ : ∃ d', d = d' + 2 := ⟨d - 2, by omega⟩
  intro m
  induction m with
  | zero =>
    intro k hkm
    refine v_X3_equalChildren_3 hG ?_
    unfold w_X3_equalChildren_3
    refine vgi_of w0 rfl ?_
    rw [w2, k3 hb]
    refine vif_y (nI_le (by omega) (by omega)) ⟨?_, rfl⟩
    rw [List.drop_eq_nil_of_le (by omega)]; rfl
  | succ m ih =>
    intro k hkm
    have hlt : k < (nki (D.2 i)).length := by omega
    have hc := k1 _ (lk_in hlt)
    obtain ⟨x, x0, x1, x2, x3, x4, _⟩ := H.dh.vl hc h40
    refine v_X3_equalChildren_3 hG ?_
    unfold w_X3_equalChildren_3
    refine vgi_of w0 rfl ?_
    rw [w2, k3 hb]
    have ea : alkS D (alk D F) i j ((nki (D.2 i)).drop k) k = (mB (if nkd (D.2 i) = 5 then (nki (D.2 j))[k]? else kidN D j (nnm (D.2 (lk (nki (D.2 i)) k)))) (fun d => alk D F (lk (nki (D.2 i)) k) d) && alkS D (alk D F) i j ((nki (D.2 i)).drop (k + 1)) (k + 1)) := by
      rw [drop_lk hlt]; rfl
    rw [ea]
    -- once the other child is known
    have fin : ∀ o : Option Nat, (∀ e, o = some e → e < D.1) → vif (oI o = -1) ((.inl (some (.int 0)) : mv_O) = .inl (some (.int (b2i (mB o (fun d => alk D F (lk (nki (D.2 i)) k) d) && alkS D (alk D F) i j ((nki (D.2 i)).drop (k + 1)) (k + 1))))) ∧ h = h) (vgb h f 5 1 fun x89 => vgb h x89 3 0 fun x92 => vab G h x92 4 (oI o) fun x97 => vob h f 5 (mv_rq l G mX3_equal (d + 2) 0 (mv_in [.ref f, .ref (A + 43 + lk (nki (D.2 i)) k), .ref x97, .int (nI q + 1)] 4) [] h (vI (fun E h1 => (.inr E : mv_O) = .inl (some (.int (b2i (mB o (fun d => alk D F (lk (nki (D.2 i)) k) d) && alkS D (alk D F) i j ((nki (D.2 i)).drop (k + 1)) (k + 1))))) ∧ h = h1) (fun x101 h101 => vif (x101 = 0) ((.inl (some (.int 0)) : mv_O) = .inl (some (.int (b2i (mB o (fun d => alk D F (lk (nki (D.2 i)) k) d) && alkS D (alk D F) i j ((nki (D.2 i)).drop (k + 1)) (k + 1))))) ∧ h = h101) (mv_rq l G mX3_equalChildren (d + 3) 3 [some (.ref f), some (.ref (A + 43 + i)), some (.ref (A + 43 + j)), some (.int (nI q)), some (.int (nI k + 1)), none, none] [] h101 (fun o' h1 => o' = .inl (some (.int (b2i (mB o (fun d => alk D F (lk (nki (D.2 i)) k) d) && alkS D (alk D F) i j ((nki (D.2 i)).drop (k + 1)) (k + 1))))) ∧ h = h1)))))) := by
      intro o ho
      cases o with
      | none => exact vif_y rfl ⟨rfl, rfl⟩
      | some e =>
        have he := ho e rfl
        refine vif_n (nI_m1 (by omega)) (H.doc (H.dh.nd (n := e) (by omega) rfl (vob_of H.1 ?_)))
        rw [nI_1]
        refine vI_of (hrec _ e hc he) ?_
        rw [mB_s]
        cases hx : alk D F (lk (nki (D.2 i)) k) e with
        | false => exact vif_y rfl ⟨rfl, rfl⟩
        | true =>
          refine vif_n (by decide) ?_
          rw [nI_1]
          exact ih (k + 1) (by omega)
    have ek : w.2.2.2.1 = nI i := w9
    have ej : v.2.2.2.1 = nI j := v9
    refine vif_n (fun z => absurd ((nI_leI (by omega) (by omega)).mp z) (by omega)) ?_
    have hD0 := H.dh.kid (P := fun y33 => vgb h A 3 0 fun x16 => vab G h x16 4 y33 fun _ => True) hi h40 k2 hlt (H.dh.nd (n := lk (nki (D.2 i)) k) (by omega) rfl trivial)
    obtain ⟨hA, ⟨fn, f1, f2⟩, ⟨fc, c1, c2⟩, c3, _⟩ := hdc0
    have eI : I0 i k = nI (lk (nki (D.2 i)) k) := by
      obtain ⟨s1, V1, I1, d1, d2, d3⟩ := id H.dh
      have e1 := (d2 i hi).2.2.2.2.2.2.2.2 k hlt
      have e2 := c3 i (by omega)
      have e3 := d1.2.2.2.1 i (by omega)
      rw [e2] at e3
      have e4 : I0 i = I1 i := by simpa using e3
      rw [e4]; exact e1
    refine H.doc (vgb_of hA rfl (H.doc (vgb_of hA rfl (vgi_of w0 rfl (vab_of c1 ek (show i < 40 by omega) (by omega) (c2 i (by omega)) (vai_of (c3 i (by omega)) rfl (show k < 40 by omega) (by omega) ?_))))))
    rw [eI]
    refine vab_of f1 rfl (show lk (nki (D.2 i)) k < 40 by omega) (by omega) (f2 _ (by omega)) (vgi_of w0 rfl ?_)
    rw [w1]
    refine vif_of (fun c => ?_) (fun c => ?_)
    · rw [if_pos c]
      refine H.doc (vgi_of v0 rfl (vob_of hA ?_))
      rw [ej]
      refine vI_of (H.dh.childAt (x := nI k) hG hI hj (by omega)) ?_
      rw [nI_toInt (by omega), if_neg (by omega), Int.toNat_natCast]
      exact fin _ (fun e he => j1 e (List.mem_of_getElem? he))
    · rw [if_neg c]
      have c6 : nkd (D.2 j) = 6 := by
        rcases hb with z | z
        · exact absurd z c
        · rw [← hk]; exact z
      refine H.doc (vgi_of v0 rfl (vgb_of x0 rfl (vob_of hA ?_)))
      rw [ej]
      refine vI_of (H.dh.named hG hI hj x4) ?_
      rw [if_pos c6]
      exact fin _ (fun e he => j1 e (List.mem_of_find?_eq_some he))
/-- two nodes are alike -/
theorem eqN {g : Nat → Nat} (hG : mv_ok G) (H : FS G h f A t D kk) (hI : dI t g D) : ∀ (F q i j d : Nat), F + q = 7 → i < D.1 → j < D.1 → 2 * F + 4 ≤ d → mv_rq l G mX3_equal d 0 (mv_in [.ref f, .ref (A + 43 + i), .ref (A + 43 + j), .int (nI q)] 4) [] h (fun o h1 => o = .inl (some (.int (b2i (alk D F i j)))) ∧ h = h1) := by
  have h40 := hI.1.1
  intro F
  induction F with
  | zero =>
    intro q i j d hq hi hj hd
    obtain ⟨d, rfl⟩ : ∃ d', d = d' + 1 := ⟨d - 1, by omega⟩
    obtain ⟨w, w0, w1, w2, _⟩ := H.dh.vl hi h40
    obtain ⟨v, v0, v1, v2, _⟩ := H.dh.vl hj h40
    refine v_X3_equal (u1 := some (A + 43 + i)) (u2 := some (A + 43 + j)) hG ?_
    unfold w_X3_equal
    refine vif_of (fun c => ⟨?_, rfl⟩) (fun c => ⟨fun z => (by cases z), fun a ha => ⟨fun z => (by cases z), fun b hb => ?_⟩⟩)
    · have : i = j := by simpa using c
      rw [this]
      show _ = Sum.inl (some (Value.int (b2i (j == j))))
      rw [beq_self_eq_true]; rfl
    · cases ha
      cases hb
      have hij : ¬ i = j := fun z => c (by rw [z])
      have e0 : alk D 0 i j = false := by show (i == j) = false; simpa using hij
      rw [e0]
      refine vgi_of w0 rfl (vgi_of v0 rfl (vif_of (fun _ => vif_n (fun z => ?_) ⟨rfl, rfl⟩) (fun _ => ⟨rfl, rfl⟩)))
      exact absurd ((nI_leI (b := 6) (by omega) (by omega)).mp z) (by omega)
  | succ F ih =>
    intro q i j d hq hi hj hd
    obtain ⟨d, rfl⟩ : ∃ d', d = d' + 2 := ⟨d - 2, by omega⟩
    obtain ⟨w, w0, w1, w2, w3, _⟩ := H.dh.vl hi h40
    obtain ⟨v, v0, v1, v2, v3, _⟩ := H.dh.vl hj h40
    obtain ⟨k1, k2, k3, k4⟩ := hI.kids hi
    refine v_X3_equal (u1 := some (A + 43 + i)) (u2 := some (A + 43 + j)) hG ?_
    unfold w_X3_equal
    refine vif_of (fun c => ⟨?_, rfl⟩) (fun c => ⟨fun z => (by cases z), fun a ha => ⟨fun z => (by cases z), fun b hb => ?_⟩⟩)
    · have : i = j := by simpa using c
      have e0 : alk D (F + 1) i j = true := by rw [this]; simp [alk]
      rw [e0]; rfl
    · cases ha
      cases hb
      have hij : ¬ i = j := fun z => c (by rw [z])
      have e0 : alk D (F + 1) i j = (nkd (D.2 i) == nkd (D.2 j) && (if nkd (D.2 i) = 3 then nsz (D.2 i) == nsz (D.2 j) else if nkd (D.2 i) = 4 then ntx (D.2 i) == ntx (D.2 j) else if nkd (D.2 i) = 5 ∨ nkd (D.2 i) = 6 then nsz (D.2 i) == nsz (D.2 j) && alkS D (alk D F) i j (nki (D.2 i)) 0 else true)) := by
        show (i == j || _) = _
        rw [show (i == j) = false from by simpa using hij, Bool.false_or]
      rw [e0]
      refine vgi_of w0 rfl (vgi_of v0 rfl ?_)
      rw [w1, v1]
      refine vif_of (fun ck => vif_y ?_ (vgi_of w0 rfl ?_)) (fun ck => ⟨?_, rfl⟩)
      · exact (nI_leI (b := 6) (by omega) (by omega)).mpr (by omega)
      · rw [w1, show (nkd (D.2 i) == nkd (D.2 j)) = true from by simpa using ck, Bool.true_and]
        have kids : isB (nkd (D.2 i)) → nkd (D.2 i) ≠ 3 → nkd (D.2 i) ≠ 4 → vgi h (A + 43 + i) 13 1 fun x98 => vgi h (A + 43 + j) 13 1 fun x102 => vif (x98 = x102) (vob h f 5 (mv_rq l G mX3_equalChildren (d + 1) 0 (mv_in [.ref f, .ref (A + 43 + i), .ref (A + 43 + j), .int (nI q)] 7) [] h (vI (fun E h1 => (.inr E : mv_O) = .inl (some (.int (b2i (nsz (D.2 i) == nsz (D.2 j) && alkS D (alk D F) i j (nki (D.2 i)) 0)))) ∧ h = h1) (fun x112 h112 => vif (x112 = 0) ((.inl (some (.int 0)) : mv_O) = .inl (some (.int (b2i (nsz (D.2 i) == nsz (D.2 j) && alkS D (alk D F) i j (nki (D.2 i)) 0)))) ∧ h = h112) ((.inl (some (.int 1)) : mv_O) = .inl (some (.int (b2i (nsz (D.2 i) == nsz (D.2 j) && alkS D (alk D F) i j (nki (D.2 i)) 0)))) ∧ h = h112))))) ((.inl (some (.int 0)) : mv_O) = .inl (some (.int (b2i (nsz (D.2 i) == nsz (D.2 j) && alkS D (alk D F) i j (nki (D.2 i)) 0)))) ∧ h = h) := fun hb _ _ => by
          refine vgi_of w0 rfl (vgi_of v0 rfl ?_)
          rw [w2, v2]
          refine vif_of (fun cs => vob_of H.1 (vI_of (x := b2i (alkS D (alk D F) i j (nki (D.2 i)) 0)) (h' := h) (v_X3_equalChildren hG ?_) ?_)) (fun cs => ⟨?_, rfl⟩)
          · unfold w_X3_equalChildren
            have := eqL (l := l) (d := d) hG H hI hi hj hb ck (fun c e hc he => ih (q + 1) c e d (by omega) hc he (by omega)) (by omega) _ 0 (Nat.zero_add _)
            exact this
          · rw [show (nsz (D.2 i) == nsz (D.2 j)) = true from by simpa using cs, Bool.true_and]
            cases alkS D (alk D F) i j (nki (D.2 i)) 0 with
            | true => exact vif_n (by decide) ⟨rfl, rfl⟩
            | false => exact vif_y rfl ⟨rfl, rfl⟩
          · rw [show (nsz (D.2 i) == nsz (D.2 j)) = false from by simpa using cs]; rfl
        refine vif_of (fun c3 => ?_) (fun c3 => vif_of (fun c4 => ?_) (fun c4 => vif_of (fun c5 => ?_) (fun c5 => vif_of (fun c6 => ?_) (fun c6 => ⟨?_, rfl⟩))))
        · rw [if_pos c3]
          refine vgi_of w0 rfl (vgi_of v0 rfl ?_)
          rw [w2, v2]
          refine vif_of (fun cs => ⟨?_, rfl⟩) (fun cs => ⟨?_, rfl⟩)
          · rw [show (nsz (D.2 i) == nsz (D.2 j)) = true from by simpa using cs]; rfl
          · rw [show (nsz (D.2 i) == nsz (D.2 j)) = false from by simpa using cs]; rfl
        · rw [if_neg c3, if_pos c4]
          obtain ⟨_, _, _, _, ss1, _⟩ := id w3
          refine vgb_of w0 rfl (vgb_of v0 rfl (vob_of ss1 (vI_of (sp_equals hG w3 v3) ?_)))
          by_cases ct : ntx (D.2 i) = ntx (D.2 j)
          · rw [if_pos ct, ct, beq_self_eq_true]
            exact ⟨nB1.1, rfl, rfl⟩
          · rw [if_neg ct, show (ntx (D.2 i) == ntx (D.2 j)) = false from by simpa using ct]
            exact ⟨nB0.1, rfl, rfl⟩
        · rw [if_neg c3, if_neg c4, if_pos (Or.inl c5)]
          exact kids (Or.inl c5) c3 c4
        · rw [if_neg c3, if_neg c4, if_pos (Or.inr c6)]
          exact kids (Or.inr c6) c3 c4
        · rw [if_neg c3, if_neg c4, if_neg (fun z => z.elim c5 c6)]; rfl
      · rw [show (nkd (D.2 i) == nkd (D.2 j)) = false from by simpa using ck]; rfl
end FE
