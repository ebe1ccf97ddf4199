/-! the counting answers -/
theorem eB_s {α β : Type} {a : α} {f : α → eR β} : eB (some (a, 0)) f = f a := by
  unfold eB
  simp only
  cases f a with
  | none => rfl
  | some q => simp
theorem eB_p {α : Type} {x : eR α} : eB x (fun a => some (a, 0)) = x := by
  cases x with
  | none => rfl
  | some q => rfl
theorem eB_a {α β γ : Type} {x : eR α} {f : α → eR β} {g : β → eR γ} : eB (eB x f) g = eB x (fun a => eB (f a) g) := by
  cases x with
  | none => rfl
  | some q =>
    obtain ⟨a, k⟩ := q
    unfold eB
    simp only
    cases f a with
    | none => rfl
    | some r =>
      obtain ⟨b, j⟩ := r
      simp only
      cases g b with
      | none => rfl
      | some s => simp; omega
theorem eB_n {α β : Type} {f : α → eR β} : eB none f = none := rfl
theorem opsE_app {tq : List Nat} {rec : Nat → dPth} {os : Nat → Int32 × Int32 × Int32} {D : dS} {n : Nat} : ∀ {a b : List Nat} {st : stk}, opsE tq rec os D n (a ++ b) st = eB (opsE tq rec os D n a st) fun st' => opsE tq rec os D n b st'
  | [], b, st => by
    show opsE tq rec os D n b st = eB (some (st, 0)) _
    rw [eB_s]
  | k :: r, b, st => by
    show eB (opE tq rec (os k) D n st) (fun st' => opsE tq rec os D n (r ++ b) st') = eB (eB (opE tq rec (os k) D n st) fun st' => opsE tq rec os D n r st') _
    rw [eB_a]
    congr 1
    funext st'
    exact opsE_app
def orL (D : dS) (n : Nat) : List dCnd → Bool → eR Bool
  | [], b => some (b, 0)
  | c :: r, b => eB (c D n) fun b' => orL D n r (b || b')
def anL (D : dS) (n : Nat) : List dCnd → Bool → eR Bool
  | [], b => some (b, 0)
  | c :: r, b => eB (c D n) fun b' => anL D n r (b && b')
theorem orL_any {D : dS} {n : Nat} : ∀ {cs : List dCnd} {b : Bool}, orL D n cs b = eB (anyR cs D n) fun b' => some (b || b', 0)
  | [], b => by
    show some (b, 0) = eB (some (false, 0)) _
    rw [eB_s]; simp
  | c :: r, b => by
    show eB (c D n) (fun b' => orL D n r (b || b')) = eB (eB (c D n) fun b1 => eB (anyR r D n) fun b' => some (b1 || b', 0)) _
    rw [eB_a]
    congr 1
    funext b1
    rw [eB_a, orL_any]
    congr 1
    funext b2
    rw [eB_s, Bool.or_assoc]
theorem anL_all {D : dS} {n : Nat} : ∀ {cs : List dCnd} {b : Bool}, anL D n cs b = eB (allR cs D n) fun b' => some (b && b', 0)
  | [], b => by
    show some (b, 0) = eB (some (true, 0)) _
    rw [eB_s]; simp
  | c :: r, b => by
    show eB (c D n) (fun b' => anL D n r (b && b')) = eB (eB (c D n) fun b1 => eB (allR r D n) fun b' => some (b1 && b', 0)) _
    rw [eB_a]
    congr 1
    funext b1
    rw [eB_a, anL_all]
    congr 1
    funext b2
    rw [eB_s, Bool.and_assoc]
theorem any_orL {D : dS} {n : Nat} {c : dCnd} {cs : List dCnd} : anyR (c :: cs) D n = eB (c D n) fun b => orL D n cs b := by
  show eB (c D n) (fun b => eB (anyR cs D n) fun b' => some (b || b', 0)) = _
  congr 1
  funext b
  exact orL_any.symm
theorem all_anL {D : dS} {n : Nat} {c : dCnd} {cs : List dCnd} : allR (c :: cs) D n = eB (c D n) fun b => anL D n cs b := by
  show eB (c D n) (fun b => eB (allR cs D n) fun b' => some (b && b', 0)) = _
  congr 1
  funext b
  exact anL_all.symm
/-! what stays of the tables -/
def kpQ (pa sg cc : Option Nat) (Q Q' : cQ) : Prop := leQ Q Q' ∧
  (∀ b, b < (qp Q).1 → (qp Q').2.1 b = (qp Q).2.1 b ∧ (pa ≠ some b → (qp Q').2.2 b = (qp Q).2.2 b)) ∧
  (∀ b, b < (qg Q).1 → (qg Q').2.1 b = (qg Q).2.1 b ∧ (sg ≠ some b → (qg Q').2.2 b = (qg Q).2.2 b)) ∧
  (∀ b, b < (qk Q).1 → (qk Q').2 b = (qk Q).2 b) ∧
  (∀ b, b < (qc Q).1 → cc ≠ some b → (qc Q').2 b = (qc Q).2 b) ∧
  (∀ b, b < (qo Q).1 → (qo Q').2 b = (qo Q).2 b)
theorem kpQ.rf {pa sg cc : Option Nat} {Q : cQ} : kpQ pa sg cc Q Q := ⟨leQ.rf, fun _ _ => ⟨rfl, fun _ => rfl⟩, fun _ _ => ⟨rfl, fun _ => rfl⟩, fun _ _ => rfl, fun _ _ _ => rfl, fun _ _ => rfl⟩
theorem kpQ.tr {pa sg cc pa' sg' cc' : Option Nat} {A B C : cQ} (h : kpQ pa sg cc A B) (k : kpQ pa' sg' cc' B C) (h1 : ∀ b, pa' = some b → b < (qp A).1 → pa = some b) (h2 : ∀ b, sg' = some b → b < (qg A).1 → sg = some b) (h3 : ∀ b, cc' = some b → b < (qc A).1 → cc = some b) : kpQ pa sg cc A C := by
  obtain ⟨a1, a2, a3, a4, a5, a6⟩ := h
  obtain ⟨b1, b2, b3, b4, b5, b6⟩ := k
  have l := a1
  obtain ⟨l1, l2, l3, l4, l5⟩ := l
  refine ⟨a1.tr b1, fun b hb => ?_, fun b hb => ?_, fun b hb => ?_, fun b hb hc => ?_, fun b hb => ?_⟩
  · have x := a2 b hb
    have y := b2 b (by omega)
    exact ⟨y.1.trans x.1, fun z => (y.2 (fun w => z (h1 b w hb))).trans (x.2 z)⟩
  · have x := a3 b hb
    have y := b3 b (by omega)
    exact ⟨y.1.trans x.1, fun z => (y.2 (fun w => z (h2 b w hb))).trans (x.2 z)⟩
  · exact (b4 b (by omega)).trans (a4 b hb)
  · exact (b5 b (by omega) (fun w => hc (h3 b w hb))).trans (a5 b hb hc)
  · exact (b6 b (by omega)).trans (a6 b hb)
theorem kpQ.agr {pa sg cc : Option Nat} {A B C : cQ} (h : kpQ pa sg cc B C) (h1 : ∀ b, pa = some b → b < (qp A).1) (h2 : ∀ b, sg = some b → b < (qg A).1) (h3 : ∀ b, cc = some b → b < (qc A).1) : agr A B C := by
  obtain ⟨a1, a2, a3, a4, a5, a6⟩ := h
  refine ⟨fun b x y => ⟨(a2 b y).1, (a2 b y).2 fun z => absurd (h1 b z) (by omega)⟩, fun b x y => ⟨(a3 b y).1, (a3 b y).2 fun z => absurd (h2 b z) (by omega)⟩, fun b x y => a4 b y, fun b x y => a5 b y fun z => absurd (h3 b z) (by omega), fun b x y => a6 b y⟩
theorem kp_path {Q : cQ} {be : Nat} {rt : Bool} : kpQ none none none Q (nPath Q be rt) := by
  refine ⟨⟨Nat.le_succ _, Nat.le_refl _, Nat.le_refl _, Nat.le_refl _, Nat.le_refl _⟩, fun b hb => ⟨?_, fun _ => ?_⟩, fun _ _ => ⟨rfl, fun _ => rfl⟩, fun _ _ => rfl, fun _ _ _ => rfl, fun _ _ => rfl⟩
  · exact updL_n (by omega)
  · exact updL_n (by omega)
theorem kp_seg {Q : cQ} {a : Nat} {bw : Bool} : kpQ (some a) none none Q (nSeg Q a bw) := by
  refine ⟨⟨Nat.le_refl _, Nat.le_succ _, Nat.le_refl _, Nat.le_refl _, Nat.le_refl _⟩, fun b hb => ⟨rfl, fun z => ?_⟩, fun b hb => ⟨?_, fun _ => ?_⟩, fun _ _ => rfl, fun _ _ _ => rfl, fun _ _ => rfl⟩
  · exact updL_n (fun w => z (by rw [w]))
  · exact updL_n (by omega)
  · exact updL_n (by omega)
theorem kp_sel {Q : cQ} {s : Nat} {k : Int32 × Int32 × Int32 × Int32 × Int32} : kpQ none (some s) none Q (nSel Q s k) := by
  refine ⟨⟨Nat.le_refl _, Nat.le_refl _, Nat.le_succ _, Nat.le_refl _, Nat.le_refl _⟩, fun b hb => ⟨rfl, fun z => rfl⟩, fun b hb => ⟨rfl, fun z => ?_⟩, fun b hb => ?_, fun _ _ _ => rfl, fun _ _ => rfl⟩
  · exact updL_n (fun w => z (by rw [w]))
  · exact updL_n (by omega)
theorem kp_cnd {Q : cQ} : kpQ none none none Q (nCnd Q) := by
  refine ⟨⟨Nat.le_refl _, Nat.le_refl _, Nat.le_refl _, Nat.le_succ _, Nat.le_refl _⟩, fun b hb => ⟨rfl, fun z => rfl⟩, fun b hb => ⟨rfl, fun z => rfl⟩, fun b hb => rfl, fun b hb _ => ?_, fun _ _ => rfl⟩
  exact updL_n (by omega)
theorem kp_op {Q : cQ} {c : Nat} {o : Int32 × Int32 × Int32} : kpQ none none (some c) Q (nOp Q c o) := by
  refine ⟨⟨Nat.le_refl _, Nat.le_refl _, Nat.le_refl _, Nat.le_refl _, Nat.le_succ _⟩, fun b hb => ⟨rfl, fun z => rfl⟩, fun b hb => ⟨rfl, fun z => rfl⟩, fun b hb => rfl, fun b hb z => ?_, fun b hb => ?_⟩
  · exact updL_n (fun w => z (by rw [w]))
  · exact updL_n (by omega)
