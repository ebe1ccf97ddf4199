/-! runs of the reader -/
abbrev tdL : Type := List (Int32 × Int32 × Int32)
def gdR (t : List Nat) (N p : Nat) (S : md_S) (td : tdL) (ne p' : Nat) (Q' : cQ) (a b : Nat) : Prop := ∃ k S', k + 10 * p + a ≤ 10 * p' + b ∧ (∀ n, qL N (n + k) S = qL N n S') ∧ rR t p' Q' td ne S' ∧ rF KR S S'
def baR (t : List Nat) (N p : Nat) (S : md_S) (w B : Nat) : Prop := ∃ k S', k + 10 * p ≤ 10 * t.length + B ∧ (∀ n, qL N (n + k) S = some (0, S')) ∧ rI w S' ∧ w < 1000 ∧ rF KR S S'
def ent (e al p : Nat) (Q : cQ) : Prop := 5 * (qp Q).1 ≤ 2 * p + al ∧ 13 * (qc Q).1 ≤ 4 * p + 4 * e ∧ (qg Q).1 ≤ p ∧ (qk Q).1 ≤ p ∧ (qo Q).1 ≤ p
/-- how much the tables grow for what was read -/
def grw (a c : Nat) (Q : cQ) (p : Nat) (Q' : cQ) (p' : Nat) : Prop := 5 * (qp Q').1 + 2 * p ≤ 2 * p' + 5 * (qp Q).1 + a ∧ 13 * (qc Q').1 + 4 * p + c ≤ 4 * p' + 13 * (qc Q).1 ∧ (qg Q').1 + p ≤ (qg Q).1 + p' ∧ (qk Q').1 + p ≤ (qk Q).1 + p' ∧ (qo Q').1 + p ≤ (qo Q).1 + p'
theorem baR.of {t : List Nat} {N p p1 w k B B1 : Nat} {S S1 : md_S} (h : baR t N p1 S1 w B1) (hk : k + 10 * p + B1 ≤ 10 * p1 + B) (hs : ∀ n, qL N (n + k) S = qL N n S1) (hf : rF KR S S1) : baR t N p S w B := by
  obtain ⟨j, S', a, b, c, d, e⟩ := h
  refine ⟨j + k, S', by omega, fun n => ?_, c, d, hf.tr e (fun _ z => z) (fun _ z => z)⟩
  rw [← Nat.add_assoc, hs, b]
/-- a step that ends ill -/
theorem baR.st {t : List Nat} {N p w B : Nat} {S S' : md_S} {x : Int32 × Int32 × Int32} {td : tdL} (hN : 161 ≤ N) (h7 : S.1 7 = -1) (h : rPl (x :: td) S) (hp : p ≤ t.length + 1) (hs : mo_readPart N x.1 x.2.1 x.2.2 (md_p S 55 (nI td.length)) = some S') (hi : rI w S') (hw : w < 1000) (hf : rF KR (md_p S 55 (nI td.length)) S') (hB : 40 ≤ B) : baR t N p S w B := by
  refine ⟨2, S', by omega, fun n => ?_, hi, hw, (rF.rf.p (by decide)).tr hf (fun _ z => z) (fun _ z => z)⟩
  rw [show n + 2 = (n + 1) + 1 from rfl, qL_st h7 h, hs]
  exact qL_ill hN hi hw
theorem rR.op {t : List Nat} {p : Nat} {Q : cQ} {td : tdL} {ne c : Nat} {S : md_S} {x2 x3 x4 : Int32} (h : rR t p Q td ne S) (hc : c < (qc Q).1) (hl : (qo Q).1 < 170) : ∃ S', mo_emit (nI c) x2 x3 x4 S = some S' ∧ rR t p (nOp Q c (x2, x3, x4)) td ne S' ∧ rF [30, 49, 50, 51, 52, 53, 54] S S' := by
  obtain ⟨S', a, b, f⟩ := e_emit (x2 := x2) (x3 := x3) (x4 := x4) h.2.1 hc hl
  exact ⟨S', a, ⟨h.1.f f (by decide) (by decide) (by decide) (by decide), b, h.2.2.1.f f (by decide) (by decide) (by decide) (by decide), by rw [(f 31 (by decide)).1]; exact h.2.2.2⟩, f⟩
theorem rR.path {t : List Nat} {p : Nat} {Q : cQ} {td : tdL} {ne : Nat} {S : md_S} {rt : Bool} (h : rR t p Q td ne S) (hl : (qp Q).1 < 100) : ∃ S', mo_newPath (bI rt) S = some (nI (qp Q).1, S') ∧ rR t (p + 1) (nPath Q p rt) td ne S' ∧ rF [6, 26, 33, 34, 35, 36] S S' := by
  obtain ⟨S', a, b, c, f⟩ := e_newPath (rt := rt) h.1 h.2.1 hl
  exact ⟨S', a, ⟨b, c, h.2.2.1.f f (by decide) (by decide) (by decide) (by decide), by rw [(f 31 (by decide)).1]; exact h.2.2.2⟩, f⟩
theorem rR.seg {t : List Nat} {p : Nat} {Q : cQ} {td : tdL} {ne a : Nat} {S : md_S} {bw : Bool} (h : rR t p Q td ne S) (ha : a < (qp Q).1) (hl : (qg Q).1 < 170) : ∃ S', mo_newSegment (nI a) (bI bw) S = some (nI (qg Q).1, S') ∧ rR t p (nSeg Q a bw) td ne S' ∧ rF [27, 34, 35, 37, 38, 39, 40, 41, 42] S S' := by
  obtain ⟨S', x, b, f⟩ := e_newSeg (bw := bw) h.2.1 ha hl
  exact ⟨S', x, ⟨h.1.f f (by decide) (by decide) (by decide) (by decide), b, h.2.2.1.f f (by decide) (by decide) (by decide) (by decide), by rw [(f 31 (by decide)).1]; exact h.2.2.2⟩, f⟩
theorem rR.sel {t : List Nat} {p : Nat} {Q : cQ} {td : tdL} {ne s : Nat} {S : md_S} {x2 x3 x4 x5 x6 : Int32} (h : rR t p Q td ne S) (hs : s < (qg Q).1) (hl : (qk Q).1 < 170) : ∃ S', mo_newSelector (nI s) x2 x3 x4 x5 x6 S = some (nI (qk Q).1, S') ∧ rR t p (nSel Q s (x2, x3, x4, x5, x6)) td ne S' ∧ rF [28, 38, 39, 40, 43, 44, 45, 46, 47, 48] S S' := by
  obtain ⟨S', x, b, f⟩ := e_newSel (x2 := x2) (x3 := x3) (x4 := x4) (x5 := x5) (x6 := x6) h.2.1 hs hl
  exact ⟨S', x, ⟨h.1.f f (by decide) (by decide) (by decide) (by decide), b, h.2.2.1.f f (by decide) (by decide) (by decide) (by decide), by rw [(f 31 (by decide)).1]; exact h.2.2.2⟩, f⟩
theorem rR.i {t : List Nat} {p : Nat} {Q : cQ} {td : tdL} {ne : Nat} {S : md_S} (h : rR t p Q td ne S) : rR t (p + 1) Q td ne (md_p S 6 (S.1 6 + 1)) := h.t6 h.1.i (rF.rf.p (K := [6]) (by decide)) (fun k z => by simp at z; omega)
/-! a number's beginning -/
theorem e_isNum {t : List Nat} (ht : tOk t) {p : Nat} {S : md_S} (h : rT t p S) (hp : p ≤ t.length) : mo_isNumberNext S = some (if isNm t p then 1 else 0, S) := by
  have h160 := ht.1
  unfold mo_isNumberNext mo_isNumberNext_j27 mo_isNumberNext_j32
  rw [e_atp h ht (by omega)]
  simp only [md_bs, aT_45 ht]
  by_cases e : lk t p = 45
  · rw [if_pos e, if_pos (Or.inr rfl), if_pos (Or.inr e)]
  · rw [if_neg e, e_atp h ht (by omega)]
    simp only [md_bs]
    rw [e_dg ht]
    simp only [md_bs, i01]
    by_cases d : isDg t p
    · rw [if_neg (fun z => z d), if_pos (Or.inr rfl), if_pos (Or.inl d)]
    · rw [if_pos d, if_pos (Or.inl rfl), if_neg (fun z => z.elim d e)]
/-- the tests that are told apart: one more op, and what it does -/
def semV (t : List Nat) (nv : Nat) (Q Q' : cQ) (ol : List Nat) (h : dThg) : Prop := ∀ X, agr Q Q' X → ∀ f, nv + 1 ≤ f → ∀ D n st, opsE t (evP t X f) (qo X).2 D n ol st = eB (h D n) fun v => some (v :: st, 0)
def semB (t : List Nat) (nv : Nat) (Q Q' : cQ) (ol : List Nat) (d : dCnd) : Prop := ∀ X, agr Q Q' X → ∀ f, nv + 1 ≤ f → ∀ D n st, opsE t (evP t X f) (qo X).2 D n ol st = eB (d D n) fun b => some (tru b :: st, 0)
def rlV (t : List Nat) (nv : Nat) (Q : cQ) (c : Nat) (Q' : cQ) (h : dThg) : Prop := kpQ none none (some c) Q Q' ∧ ∃ ol, (qc Q').2 c = (qc Q).2 c ++ ol ∧ semV t nv Q Q' ol h ∧ okV t nv Q Q' ol 1
def rlB (t : List Nat) (nv : Nat) (Q : cQ) (c : Nat) (Q' : cQ) (d : dCnd) (dm : Nat) : Prop := kpQ none none (some c) Q Q' ∧ ∃ ol, (qc Q').2 c = (qc Q).2 c ++ ol ∧ semB t nv Q Q' ol d ∧ okV t nv Q Q' ol dm
def sgl (Q : cQ) (s : Nat) : Bool := !((qg Q).2.1 s).1 && ((qg Q).2.2 s).length == 1 && ((qg Q).2.2 s).all (fun k => ((qk Q).2 k).1 == 0 || ((qk Q).2 k).1 == 2)
/-- a path that was read: where it lies, what it finds, whether it is single -/
def rlP (t : List Nat) (nv : Nat) (Q Q' : cQ) (a be : Nat) (d : dPth × Bool × Nat) : Prop := kpQ none none none Q Q' ∧ a < (qp Q').1 ∧ (qp Q).1 ≤ a ∧ ((qp Q').2.1 a).1 = be ∧ ((qp Q').2.2 a).all (sgl Q') = d.2.1 ∧ ((qp Q').2.2 a).length = d.2.2 ∧ ((qp Q').2.2 a).length ≤ 160 ∧ (∀ X, agr Q Q' X → ∀ f, nv + 1 ≤ f → evP t X f a = d.1) ∧ ∀ X, agr Q Q' X → leQ Q' X → okP t X (nv + 1) a
def TH (t : List Nat) (N nv : Nat) : Prop := ∀ (p : Nat) (Q : cQ) (c : Nat) (td : tdL) (S : md_S), rR t p Q ((14, nI c, 0) :: td) (4 - nv) S → c < (qc Q).1 → ent (4 - nv) 1 p Q → td.length + 20 * nv + 10 ≤ 400 → p ≤ t.length →
  (∀ h p', (qLv t nv).2.2 p = .inl (h, p') → ∃ Q', gdR t N p S td (4 - nv) p' Q' 7 0 ∧ p < p' ∧ p' ≤ t.length ∧ grw 3 4 Q p Q' p' ∧ rlV t nv Q c Q' h) ∧ (∀ w, (qLv t nv).2.2 p = .inr w → baR t N p S w 39)
def TS (t : List Nat) (N nv : Nat) : Prop := ∀ (p : Nat) (Q : cQ) (c : Nat) (td : tdL) (S : md_S), rR t p Q ((9, nI c, 0) :: td) (4 - nv) S → c < (qc Q).1 → ent (4 - nv) 0 p Q → td.length + 20 * nv + 13 ≤ 400 → p ≤ t.length →
  (∀ d p', (qLv t nv).1 p = .inl (d, p') → ∃ Q', gdR t N p S td (4 - nv) p' Q' 6 0 ∧ p < p' ∧ p' ≤ t.length ∧ grw 4 4 Q p Q' p' ∧ rlB t nv Q c Q' d (2 * nv + 2)) ∧ (∀ w, (qLv t nv).1 p = .inr w → baR t N p S w 40)
def AN (t : List Nat) (N nv : Nat) : Prop := ∀ (p : Nat) (Q : cQ) (c : Nat) (td : tdL) (S : md_S), rR t p Q ((3, nI c, 0) :: td) (4 - nv) S → c < (qc Q).1 → ent (4 - nv) 0 p Q → td.length + 20 * nv + 17 ≤ 400 → p ≤ t.length →
  (∀ d p', qAny t (qLv t nv).1 p = .inl (d, p') → ∃ Q', gdR t N p S td (4 - nv) p' Q' 2 0 ∧ p < p' ∧ p' ≤ t.length ∧ grw 4 4 Q p Q' p' ∧ rlB t nv Q c Q' d (2 * nv + 4)) ∧ (∀ w, qAny t (qLv t nv).1 p = .inr w → baR t N p S w 42)
/-- a path: its first letter makes the row, the item that waits says the rest -/
def PT (t : List Nat) (N nv : Nat) : Prop := ∀ (p : Nat) (Q : cQ) (td : tdL) (S : md_S) (rt : Bool), rR t (p + 1) (nPath Q p rt) ((0, nI (qp Q).1, 0) :: td) (4 - nv) S → (rt = (lk t p == 36)) → isPt t p → ent (4 - nv) 1 p Q → td.length + 20 * nv + 6 ≤ 400 →
  (∀ d p', (qLv t nv).2.1 p = .inl (d, p') → ∃ Q', gdR t N (p + 1) S td (4 - nv) p' Q' 0 1 ∧ p < p' ∧ p' ≤ t.length ∧ (grw 3 4 Q p Q' p' ∧ (qo Q').1 + p + 1 ≤ (qo Q).1 + p') ∧ rlP t nv Q Q' (qp Q).1 p d) ∧ (∀ w, (qLv t nv).2.1 p = .inr w → baR t N (p + 1) S w 40)
