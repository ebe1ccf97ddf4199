/-! the law's loop -/
theorem i2c_e (v : Int32) : ∃ c, c < 65536 ∧ (v.toUInt32 % 65536).toInt32 = nI c := by
  refine ⟨(v.toUInt32 % 65536).toNat, ?_, ?_⟩
  · rw [UInt32.toNat_mod]
    exact Nat.mod_lt _ (by decide)
  · refine Int32.toBitVec_inj.mp ?_
    show (v.toUInt32 % 65536).toBitVec = BitVec.ofNat 32 (v.toUInt32 % 65536).toBitVec.toNat
    rw [BitVec.ofNat_toNat, BitVec.setWidth_eq]
theorem lw_gd {L i : Nat} (hL : L ≤ 1536) (e1 : (nI L).toInt = L) (e2 : (nI i).toInt = i) : nI L - 3 < nI i ↔ L < i + 3 := by
  have e3 : (nI L - 3).toInt = (L : Int) - 3 := by
    rw [Int32.toInt_sub, e1]
    have : (3 : Int32).toInt = 3 := rfl
    rw [this, Int.bmod_eq_of_le (by omega) (by omega)]
  rw [Int32.lt_iff_toInt_lt, e3, e2]
  omega
theorem lw_cmp (x : Int64) : lg_cmp x x = 0 := by simp [lg_cmp]
/-- object, reference, the array for answers, the script -/
def PW (G : mv_G) (h : mv_H) (b L : Nat) (xs : Nat → Int32) (x : Nat) (A : aS) (S : md_S) (f : Nat → Int64) (nc ns : Nat) : Prop :=
  TP G h x (x + 260) A nc ns ∧ MD G h (x + 199) S ∧ h.2.2 (x + 259) = some (.inl (mv_t G 3, 1, .inr (.inl f))) ∧ b < x ∧ h.2.2 b = some (.inl (mv_t G 1, L, .inl xs))
section LW
variable {l : Launch} {G : mv_G} {D d b L x nc ns nc' ns' : Nat} {xs : Nat → Int32} {h h1 : mv_H} {A A' : aS} {S S' : md_S} {f g : Nat → Int64}
theorem PW.o (P : PW G h b L xs x A S f nc ns) (T : TP G h1 x (x + 260) A' nc' ns') (ho : oth h h1 x (x + 260)) : PW G h1 b L xs x A' S f nc' ns' := by
  obtain ⟨p1, p2, p3, p4, p5⟩ := P
  exact ⟨T, p2.o fun a z1 z2 => ho a (Or.inl z1) (by omega), (ho _ (Or.inl (by omega)) (by omega)).trans p3, p4, (ho _ (Or.inr p4) (by omega)).trans p5⟩
theorem PW.nst (P : PW G h b L xs x A S f nc ns) {a : Nat} {fs : List Value} (z1 : x + 199 ≤ a) (z2 : a < x + 260) : h.2.2 a ≠ some (.inr (0, fs)) := by
  obtain ⟨p1, p2, p3, p4, p5⟩ := P
  by_cases c : a = x + 259
  · subst c
    rw [p3]
    exact fun z => by cases z
  · unfold MD at p2
    rw [← p2]
    exact md_nst z1 (by omega)
theorem PW.m (P : PW G h b L xs x A S f nc ns) : PW G (md_H G h (x + 199) S') b L xs x A S' f nc ns := by
  have nst := fun {a : Nat} {fs : List Value} => P.nst (a := a) (fs := fs)
  obtain ⟨p1, p2, p3, p4, p5⟩ := P
  refine ⟨p1.rg rfl rfl (fun a z => md_out (by omega)) (fun a fs z1 z2 => ⟨nst z1 z2, ?_⟩), MD.i, (md_out (by omega)).trans p3, p4, (md_out (by omega)).trans p5⟩
  by_cases c : a = x + 259
  · subst c
    rw [md_out (by omega), p3]
    exact fun z => by cases z
  · exact md_nst z1 (by omega)
theorem PW.lg (P : PW G h b L xs x A S f nc ns) : PW G (mv_set h (x + 259) (.inl (mv_t G 3, 1, .inr (.inl g)))) b L xs x A S g nc ns := by
  have nst := fun {a : Nat} {fs : List Value} => P.nst (a := a) (fs := fs)
  obtain ⟨p1, p2, p3, p4, p5⟩ := P
  refine ⟨p1.rg rfl rfl (fun a z => hs_n (by omega)) (fun a fs z1 z2 => ⟨nst z1 z2, ?_⟩), p2.o fun a z1 z2 => hs_n (by omega), hs_s, p4, (hs_n (by omega)).trans p5⟩
  by_cases c : a = x + 259
  · subst c
    rw [hs_s]
    exact fun z => by cases z
  · rw [hs_n c]
    exact nst z1 z2
/-- a call of the reference -/
theorem mcall {M : mv_M} {as : List (Option Value)} {v : Int32} {X : String × Nat → mv_H → Prop} {R : Int32 → mv_H → Prop} (P : PW G h b L xs x A S f nc ns) (hro : mv_rq l G M d 0 as [] (md_H G h (x + 199) S) (md_Q G h (x + 199) (v, S'))) (kk : PW G (md_H G h (x + 199) S') b L xs x A S' f nc ns → R v (md_H G h (x + 199) S')) : vob h (x + 199) 15 (mv_rq l G M d 0 as [] h (vI X R)) := by
  obtain ⟨fs, hm⟩ := P.2.1.ob
  refine vob_of hm ?_
  have e : md_H G h (x + 199) S = h := P.2.1
  rw [e] at hro
  exact hro.mono fun o h1 q => Or.inl ⟨v, q.1, q.2 ▸ kk P.m⟩
/-- a helper, and the reference beside it -/
theorem lo_case {M M2 : mv_M} {as a2 : List (Option Value)} {r : Int32 × Int32 × aS} {X X2 X3 : String × Nat → mv_H → Prop} {i : Int32} {Q : mv_O → mv_H → Prop} (hG : mv_ok G) (P : PW G h b L xs x A S f nc ns) (hlo : mv_rq l G M d 0 as [] h (LO G h x (x + 260) (x + 259) nc' ns' r)) (hro : ∀ B : mv_H, mv_rq l G M2 d 0 a2 [] (md_H G B (x + 199) S) (md_Q G B (x + 199) (r.2.1, S'))) (h0 : S'.1 0 = r.1)
    (kk : ∀ h1 g, PW G h1 b L xs x r.2.2 S' g nc' ns' → mv_rq l G mL_law (D + 1) 23 [some (.ref b), some (.ref x), some (.ref (x + 199)), some (.ref (x + 259)), some (.int i), none, none] [] h1 Q) :
    mv_rq l G M d 0 as [] h (vI X (fun k h1 => vob h1 (x + 199) 15 (mv_rq l G M2 d 0 a2 [] h1 (vI X2 (fun v h2 => vob h2 (x + 199) 15 (mv_rq l G mX13_thrown d 0 (mv_in [.ref (x + 199)] 1) [] h2 (vI X3 (fun t h3 => vif (t = k) (vif (k = 0) (vla G h3 (x + 259) 0 fun y => vif (lg_cmp y v.toInt64 = 0) (mv_rq l G mL_law (D + 1) 23 [some (.ref b), some (.ref x), some (.ref (x + 199)), some (.ref (x + 259)), some (.int i), none, none] [] h3 Q) (Q (.inl (some (.int 0))) h3)) (mv_rq l G mL_law (D + 1) 23 [some (.ref b), some (.ref x), some (.ref (x + 199)), some (.ref (x + 259)), some (.int i), none, none] [] h3 Q)) (Q (.inl (some (.int 0))) h3))))))))) := by
  have hm : G.2.2.1 ≤ x + 199 := by have := P.1.bs; omega
  refine hlo.mono fun o h1 q => Or.inl ⟨r.1, ?_⟩
  obtain ⟨h', q1, q2, q3, q4⟩ := q
  refine ⟨q3, ?_⟩
  have P1 := P.o q1 q2
  rcases q4 with ⟨r0, g, e, eg⟩ | ⟨r0, e⟩
  · subst e
    refine mcall P1.lg (hro _) fun P2 => mcall P2 (ro_thrown hG hm (q := (r.1, S')) (by rw [← h0]; rfl)) fun P3 => vif_y rfl (vif_y r0 ⟨1, g, P3.2.2.1, by unfold vp_in; decide, vif_y ?_ (kk _ _ P3)⟩)
    show lg_cmp (g 0) _ = 0
    rw [eg]
    exact lw_cmp _
  · subst e
    exact mcall P1 (hro _) fun P2 => mcall P2 (ro_thrown hG hm (q := (r.1, S')) (by rw [← h0]; rfl)) fun P3 => vif_y rfl (vif_n r0 (kk _ _ P3))
theorem law_loop {Mc Ms : Nat} (hG : mv_ok G) (hX : mv_okX l G) (hT : mv_t G 0 ≠ mv_t G 1) (hN : ∀ U : State, G.2.2.2.2 U → va_Nc xUO xIS U) (hL : L ≤ 1536) : ∀ (n i : Nat) (h : mv_H) (A : aS) (S : md_S) (f : Nat → Int64) (nc ns : Nat), L < i + 3 * n + 3 → i ≤ 1536 → PW G h b L xs x A S f nc ns → rW A S → aOk A → nc + 820 * n ≤ Mc → ns + 8400 * n ≤ Ms → mv_rq l G mL_law (D + 101) 23 [some (.ref b), some (.ref x), some (.ref (x + 199)), some (.ref (x + 259)), some (.int (nI i)), none, none] [] h (fun o h1 => o = .inl (some (.int 1)) ∧ h1.1 ≤ Mc ∧ h1.2.1 ≤ Ms) := by
  intro n
  induction n with
  | zero =>
    intro i h A S f nc ns hn hi P hR hA m1 m2
    refine v_L_law_23 hG ?_
    unfold w_L_law_23
    refine vln_of P.2.2.2.2 (vif_y ((lw_gd hL (nI_toInt (by omega)) (nI_toInt (by omega))).mpr (by omega)) ⟨rfl, ?_⟩)
    obtain ⟨_, _, _, _, _, _, _, _, _, t1, t2⟩ := P.1
    omega
  | succ n ih =>
    intro i h A S f nc ns hn hi P hR hA m1 m2
    refine v_L_law_23 hG ?_
    unfold w_L_law_23
    refine vln_of P.2.2.2.2 (vif_of (fun _ => ⟨rfl, ?_⟩) (fun c => ?_))
    · obtain ⟨_, _, _, _, _, _, _, _, _, t1, t2⟩ := P.1
      omega
    have hi3 : i + 3 ≤ L := by
      rw [lw_gd hL (nI_toInt (by omega)) (nI_toInt (by omega))] at c
      omega
    have hs := P.2.2.2.2
    have hm : G.2.2.1 ≤ x + 199 := by have := P.1.bs; omega
    obtain ⟨fs, hx⟩ := P.1.ob
    have n1 : nI i + 1 = nI (i + 1) := nI_1 i
    have n2 : nI i + 2 = nI (i + 2) := nI_add i 2
    have n3 : nI i + 3 = nI (i + 3) := nI_add i 3
    have hL31 : L < 2 ^ 31 := by omega
    rw [n1, n2, n3]
    have go : ∀ (h1 : mv_H) (A1 : aS) (S1 : md_S) (f1 : Nat → Int64) (nc1 ns1 : Nat), PW G h1 b L xs x A1 S1 f1 nc1 ns1 → rW A1 S1 → aOk A1 → nc1 ≤ nc + 820 → ns1 ≤ ns + 8400 → mv_rq l G mL_law (D + 101) 23 [some (.ref b), some (.ref x), some (.ref (x + 199)), some (.ref (x + 259)), some (.int (nI (i + 3))), none, none] [] h1 (fun o h1 => o = .inl (some (.int 1)) ∧ h1.1 ≤ Mc ∧ h1.2.1 ≤ Ms) := fun h1 A1 S1 f1 nc1 ns1 P1 r1 o1 g1 g2 => ih (i + 3) h1 A1 S1 f1 nc1 ns1 (by omega) (by omega) P1 r1 o1 (by omega) (by omega)
    refine vai_of hs rfl (show i < L by omega) hL31 ?_
    refine vif_of (fun _ => ?_) (fun _ => ?_)
    · obtain ⟨c1, hc1, ec⟩ := i2c_e (xs (i + 1))
      obtain ⟨S1, e1, r1⟩ := e_typ hR hc1
      refine vai_of hs rfl (show i + 1 < L by omega) hL31 (vob_of hx ?_)
      rw [ec]
      refine (sp_type hG hX hc1 P.1 (by omega)).mono fun o h1 q => Or.inl ⟨_, q.1, ?_⟩
      have P1 := P.o q.2.1 q.2.2
      refine vai_of P1.2.2.2.2 rfl (show i + 1 < L by omega) hL31 ?_
      rw [ec]
      exact mcall P1 (ro_type hG hm e1) fun P2 => vif_y rfl (go _ _ _ _ _ _ P2 r1 (aOk_typ hA) (Nat.le_add_right _ _) (Nat.le_add_right _ _))
    refine vif_of (fun _ => ?_) (fun _ => ?_)
    · obtain ⟨N, S1, e1, e2, r1⟩ : ∃ N S1, mo_document N S = some ((aDoc A).2.1, S1) ∧ S1.1 0 = (aDoc A).1 ∧ rW (aDoc A).2.2 S1 := ⟨500, e_doc hR (Nat.le_refl _)⟩
      exact lo_case hG P (sp_Ldocument hG hX hT P.1 ⟨by omega, by omega⟩ P.2.2.1 (by omega)) (fun B => ro_document hG hm e1) e2 fun h1 g P1 => go _ _ _ _ _ _ P1 r1 (aOk_doc hA) (Nat.le_refl _) (Nat.le_refl _)
    refine vif_of (fun _ => ?_) (fun _ => ?_)
    · obtain ⟨N, S1, e1, e2, r1⟩ : ∃ N S1, mo_query N S = some ((aQry A).2.1, S1) ∧ S1.1 0 = (aQry A).1 ∧ rW (aQry A).2.2 S1 := ⟨2000, e_qry hR (Nat.le_refl _)⟩
      exact lo_case hG P (sp_Lquery hG hX P.1 ⟨by omega, by omega⟩ P.2.2.1 (by omega)) (fun B => ro_query hG hm e1) e2 fun h1 g P1 => go _ _ _ _ _ _ P1 r1 (aOk_qry hA) (Nat.le_refl _) (Nat.le_refl _)
    refine vif_of (fun _ => ?_) (fun _ => ?_)
    · obtain ⟨S1, e1, r1⟩ := e_place hR
      exact vob_of hx (vI_of (sp_place hG P.1) (mcall P (ro_place hG hm e1) fun P1 => vif_y rfl (go _ _ _ _ _ _ P1 r1 hA (Nat.le_add_right _ _) (Nat.le_add_right _ _))))
    refine vif_of (fun _ => ?_) (fun _ => ?_)
    · obtain ⟨N, S1, e1, e2, r1⟩ : ∃ N S1, mo_find N S = some ((aFind A).2.1, S1) ∧ S1.1 0 = (aFind A).1 ∧ rW (aFind A).2.2 S1 := ⟨3000 + kB 7 + (paB 5 + 3), e_find hR hA (Nat.le_add_right _ _) (Nat.le_add_left _ _)⟩
      exact lo_case hG P (sp_Lfind hG hX hT hN P.1 ⟨by omega, by omega⟩ P.2.2.1 (by omega)) (fun B => ro_find hG hm e1) e2 fun h1 g P1 => go _ _ _ _ _ _ P1 r1 (aOk_find hA) (Nat.le_refl _) (Nat.le_refl _)
    refine vif_of (fun _ => ?_) (fun _ => ?_)
    · obtain ⟨S1, e1, r1⟩ := e_found hR (xs (i + 1))
      exact vai_of hs rfl (show i + 1 < L by omega) hL31 (vob_of hx (vI_of (sp_found hG P.1) (vai_of hs rfl (show i + 1 < L by omega) hL31 (mcall P (ro_found hG hm e1) fun P1 => vif_y rfl (go _ _ _ _ _ _ P1 r1 hA (Nat.le_add_right _ _) (Nat.le_add_right _ _))))))
    refine vif_of (fun _ => ?_) (fun _ => ?_)
    · obtain ⟨S1, e1, r1⟩ := e_kind hR (xs (i + 1))
      exact vai_of hs rfl (show i + 1 < L by omega) hL31 (vob_of hx (vI_of (sp_kind hG P.1) (vai_of hs rfl (show i + 1 < L by omega) hL31 (mcall P (ro_kind hG hm e1) fun P1 => vif_y rfl (go _ _ _ _ _ _ P1 r1 hA (Nat.le_add_right _ _) (Nat.le_add_right _ _))))))
    refine vif_of (fun _ => ?_) (fun _ => ?_)
    · obtain ⟨S1, e1, r1⟩ := e_size (N := 161) hR (Nat.le_refl _) (xs (i + 1))
      exact vai_of hs rfl (show i + 1 < L by omega) hL31 (vob_of hx (vI_of (sp_tsize hG P.1) (vai_of hs rfl (show i + 1 < L by omega) hL31 (mcall P (ro_size hG hm e1) fun P1 => vif_y rfl (go _ _ _ _ _ _ P1 r1 hA (Nat.le_add_right _ _) (Nat.le_add_right _ _))))))
    refine vif_of (fun _ => ?_) (fun _ => ?_)
    · obtain ⟨S1, e1, r1⟩ := e_char hR (xs (i + 1)) (xs (i + 2))
      exact vai_of hs rfl (show i + 1 < L by omega) hL31 (vai_of hs rfl (show i + 2 < L by omega) hL31 (vob_of hx (vI_of (sp_character hG P.1 (by omega)) (vai_of hs rfl (show i + 1 < L by omega) hL31 (vai_of hs rfl (show i + 2 < L by omega) hL31 (mcall P (ro_character hG hm e1) fun P1 => vif_y rfl (go _ _ _ _ _ _ P1 r1 hA (Nat.le_add_right _ _) (Nat.le_add_right _ _))))))))
    refine vif_of (fun _ => ?_) (fun _ => ?_)
    · obtain ⟨S1, e1, r1⟩ := e_outer hR (xs (i + 1))
      exact vai_of hs rfl (show i + 1 < L by omega) hL31 (vob_of hx (vI_of (sp_outer hG P.1) (vai_of hs rfl (show i + 1 < L by omega) hL31 (mcall P (ro_outer hG hm e1) fun P1 => vif_y rfl (go _ _ _ _ _ _ P1 r1 hA (Nat.le_add_right _ _) (Nat.le_add_right _ _))))))
    refine vif_of (fun _ => ?_) (fun _ => ?_)
    · obtain ⟨S1, e1, r1⟩ := e_path (N := 161) hR (Nat.le_refl _) (xs (i + 1)) (xs (i + 2))
      refine vai_of hs rfl (show i + 1 < L by omega) hL31 (vai_of hs rfl (show i + 2 < L by omega) hL31 (vob_of hx ?_))
      refine (sp_path hG hX P.1 (by omega)).mono fun o h1 q => Or.inl ⟨_, q.1, ?_⟩
      have P1 := P.o q.2.1 q.2.2
      exact vai_of P1.2.2.2.2 rfl (show i + 1 < L by omega) hL31 (vai_of P1.2.2.2.2 rfl (show i + 2 < L by omega) hL31 (mcall P1 (ro_path hG hm e1) fun P2 => vif_y rfl (go _ _ _ _ _ _ P2 r1 hA (Nat.le_add_right _ _) (Nat.le_add_right _ _))))
    refine vif_of (fun _ => ?_) (fun _ => ?_)
    · obtain ⟨S1, e1, r1⟩ := e_text (N := 161) hR (Nat.le_refl _) (xs (i + 1)) (xs (i + 2))
      exact vai_of hs rfl (show i + 1 < L by omega) hL31 (vai_of hs rfl (show i + 2 < L by omega) hL31 (vob_of hx (vI_of (sp_text hG P.1 (by omega)) (vai_of hs rfl (show i + 1 < L by omega) hL31 (vai_of hs rfl (show i + 2 < L by omega) hL31 (mcall P (ro_text hG hm e1) fun P1 => vif_y rfl (go _ _ _ _ _ _ P1 r1 hA (Nat.le_add_right _ _) (Nat.le_add_right _ _))))))))
    exact go _ _ _ _ _ _ P hR hA (Nat.le_add_right _ _) (Nat.le_add_right _ _)
end LW
