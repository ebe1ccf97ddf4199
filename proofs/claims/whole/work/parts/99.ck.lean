/-! what the objects of a compiled query say; all that belongs to one lies from x to y -/
abbrev HP (β : Type) : Type := mv_H → Nat → Nat → Nat → β → Prop
abbrev HE (α : Type) : Type := HP (Option Nat × α)
def b2i (b : Bool) : Int32 := if b = true then 1 else 0
def hLs {α : Type} (E : HE α) (h : mv_H) : List α → Nat → Nat → Option Nat → Option Nat → Prop
  | [], x, y, fr, e => fr = e ∧ x ≤ y
  | d :: r, x, y, fr, e => ∃ a m nx, fr = some a ∧ x ≤ m ∧ E h x m a (nx, d) ∧ hLs E h r m y nx e
def hOL {α : Type} (E : HE α) (h : mv_H) (ds : List α) (x y : Nat) (fr la : Option Nat) : Prop := (ds = [] ∧ fr = none ∧ la = none ∧ x ≤ y) ∨ ∃ init d a m, ds = init ++ [d] ∧ hLs E h init x m fr (some a) ∧ x ≤ m ∧ m ≤ y ∧ E h m y a (none, d) ∧ la = some a
abbrev cSel (kd : Int32) (nm : Nat) (f to st hf ht : Int32) (cd nx : Option Nat) : va_E := .inr (10, [.int kd, .ref nm, .int f, .int to, .int st, .int hf, .int ht, va_rf cd, va_rf nx])
abbrev cSeg (bw : Int32) (fr la nx : Option Nat) : va_E := .inr (9, [.int bw, va_rf fr, va_rf la, va_rf nx])
abbrev cPth (rt : Int32) (fr la : Option Nat) (cnt sg : Int32) : va_E := .inr (6, [.int rt, va_rf fr, va_rf la, .int cnt, .int sg])
abbrev cTst (kd : Int32) (fr la nx pa le : Option Nat) (rel : Int32) (ri : Option Nat) : va_E := .inr (11, [.int kd, va_rf fr, va_rf la, va_rf nx, va_rf pa, va_rf le, .int rel, va_rf ri])
abbrev cThg (kd : Int32) (pa inn : Option Nat) (v : Nat) : va_E := .inr (12, [.int kd, va_rf pa, va_rf inn, .ref v])
abbrev HV : Type := HE dCnd × HP (dPth × Bool × Nat) × HP dThg
def hAll (T : HE dCnd) : HE dCnd := fun h x y a d => x ≤ a ∧ a < y ∧ ∃ ds fr la pa le rel ri, h.2.2 a = some (cTst 1 fr la d.1 pa le rel ri) ∧ hOL T h ds (a + 1) y fr la ∧ d.2 = allR ds
def hAny (T : HE dCnd) : HE dCnd := fun h x y a d => x ≤ a ∧ a < y ∧ ∃ ds fr la pa le rel ri, h.2.2 a = some (cTst 0 fr la d.1 pa le rel ri) ∧ hOL (hAll T) h ds (a + 1) y fr la ∧ d.2 = anyR ds
def hSel (G : mv_G) (lo : Option HV) : HE (dSel × Bool) := fun h x y a d => x ≤ a ∧ a < y ∧ ∃ kd nm f to st hf ht cd, h.2.2 a = some (cSel kd nm f to st hf ht cd d.1) ∧
  ((kd = 0 ∧ ∃ u, mv_str G h nm u ∧ d.2 = (sNamed u, true)) ∨ (kd = 1 ∧ d.2 = (sAll, false)) ∨ (kd = 2 ∧ sm f ∧ d.2 = (sPlace f, true)) ∨
   (kd = 3 ∧ (sm f ∧ sm to ∧ sm st) ∧ ∃ bf bt, hf = b2i bf ∧ ht = b2i bt ∧ d.2 = (sStr bf f bt to st, false)) ∨
   (kd = 4 ∧ ∃ b c L, cd = some b ∧ lo = some L ∧ hAny L.1 h (a + 1) y b (none, c) ∧ d.2 = (sCond c, false)))
def hSeg (G : mv_G) (lo : Option HV) : HE ((Bool × List dSel) × Bool) := fun h x y a d => x ≤ a ∧ a < y ∧ ∃ fr la ss, h.2.2 a = some (cSeg (b2i d.2.1.1) fr la d.1) ∧ hOL (hSel G lo) h ss (a + 1) y fr la ∧ d.2.1.2 = ss.map (·.1) ∧ d.2.2 = (!d.2.1.1 && ss.length == 1 && ss.all (·.2))
def hPth (G : mv_G) (lo : Option HV) : HP (dPth × Bool × Nat) := fun h x y a d => x ≤ a ∧ a < y ∧ ∃ rt fr la ss, h.2.2 a = some (cPth (b2i rt) fr la (nI d.2.2) (b2i d.2.1)) ∧ hOL (hSeg G lo) h ss (a + 1) y fr la ∧ d = (pthD rt (ss.map (·.1)), ss.all (·.2), ss.length)
def hThg (G : mv_G) (lo : Option HV) : HP dThg := fun h x y a d => x ≤ a ∧ a + 1 < y ∧ ∃ kd pa inn, h.2.2 a = some (cThg kd pa inn (a + 1)) ∧ ∃ (vk vs : Int32) (sr : Nat) (nu : Int32) (nm : Nat) (ou pl af be en : Int32), h.2.2 (a + 1) = some (valE vk vs sr nu nm ou pl af be en) ∧
  ((kd = 0 ∧ ∃ tx, mv_str G h sr tx ∧ ¬ isB vk ∧ d = wrtV (vk, vs, tx)) ∨
   (kd = 1 ∧ ∃ b p, pa = some b ∧ hPth G lo h x a b p ∧ d = pthV p.1) ∨
   (kd = 2 ∧ ∃ b e L, inn = some b ∧ lo = some L ∧ L.2.2 h (a + 2) y b e ∧ d = lenV e) ∨
   (kd = 3 ∧ ∃ b p L, pa = some b ∧ lo = some L ∧ L.2.1 h (a + 2) y b p ∧ d = cntV p.1))
def hTst (G : mv_G) (lo : Option HV) : HE dCnd := fun h x y a d => (∃ L, lo = some L ∧ hAny L.1 h x y a d) ∨ (x ≤ a ∧ a < y ∧ ∃ kd fr la pa le rel ri, h.2.2 a = some (cTst kd fr la d.1 pa le rel ri) ∧
  ((kd = 2 ∧ ∃ b c L, fr = some b ∧ lo = some L ∧ L.1 h (a + 1) y b (none, c) ∧ d.2 = notR c) ∨
   (kd = 3 ∧ ∃ b p, pa = some b ∧ hPth G lo h x a b p ∧ d.2 = findR p.1) ∨
   (kd = 4 ∧ ∃ b1 b2 d1 d2 r, le = some b1 ∧ ri = some b2 ∧ hThg G lo h x a b1 d1 ∧ hThg G lo h (a + 1) y b2 d2 ∧ r ≤ 5 ∧ rel = nI r ∧ d.2 = cmpR r d1 d2)))
def hLv (G : mv_G) : Nat → HV
  | 0 => (hTst G none, hPth G none, hThg G none)
  | n + 1 => (hTst G (some (hLv G n)), hPth G (some (hLv G n)), hThg G (some (hLv G n)))
/-- nothing outside counts; what lies in a part lies in the whole -/
def hFr (G : mv_G) {β : Type} (P : HP β) : Prop := (∀ h h1 x y a d, P h x y a d → (∀ b, x ≤ b → b < y → h1.2.2 b = h.2.2 b) → (∀ s t, mv_str G h s t → mv_str G h1 s t) → P h1 x y a d) ∧ ∀ h x y x' y' a d, P h x y a d → x' ≤ x → y ≤ y' → P h x' y' a d
/-- the cell of an object with a follower, which may be changed -/
def hNx {α : Type} (ci k : Nat) (E : HE α) : Prop := ∀ h x y a nx d, E h x y a (nx, d) → x ≤ a ∧ a < y ∧ ∃ fs, h.2.2 a = some (.inr (ci, fs)) ∧ fs[k]? = some (va_rf nx) ∧ ∀ nx', E (mv_set h a (.inr (ci, fs.set k (va_rf nx')))) x y a (nx', d)
section HF
variable {G : mv_G} {α : Type}
theorem hLs.le {E : HE α} {h : mv_H} : ∀ {ds : List α} {x y : Nat} {fr e : Option Nat}, hLs E h ds x y fr e → x ≤ y := by
  intro ds
  induction ds with
  | nil => intro x y fr e H; exact H.2
  | cons d r ih =>
    intro x y fr e ⟨a, m, nx, h1, h2, h3, h4⟩
    exact Nat.le_trans h2 (ih h4)
theorem hLs.fr {E : HE α} (hE : hFr G E) {h h1 : mv_H} (m : ∀ s t, mv_str G h s t → mv_str G h1 s t) : ∀ {ds : List α} {x y : Nat} {fr e : Option Nat}, hLs E h ds x y fr e → (∀ b, x ≤ b → b < y → h1.2.2 b = h.2.2 b) → hLs E h1 ds x y fr e := by
  intro ds
  induction ds with
  | nil => intro x y fr e H _; exact H
  | cons d r ih =>
    intro x y fr e ⟨a, mm, nx, e1, e2, e3, e4⟩ k
    have hl := e4.le
    exact ⟨a, mm, nx, e1, e2, hE.1 _ _ _ _ _ _ e3 (fun b x1 x2 => k b x1 (by omega)) m, ih e4 (fun b x1 x2 => k b (by omega) x2)⟩
theorem hLs.mo {E : HE α} (hE : hFr G E) {h : mv_H} : ∀ {ds : List α} {x y x' y' : Nat} {fr e : Option Nat}, hLs E h ds x y fr e → x' ≤ x → y ≤ y' → hLs E h ds x' y' fr e := by
  intro ds
  induction ds with
  | nil => intro x y x' y' fr e H h1 h2; exact ⟨H.1, by have := H.2; omega⟩
  | cons d r ih =>
    intro x y x' y' fr e ⟨a, mm, nx, e1, e2, e3, e4⟩ h1 h2
    exact ⟨a, mm, nx, e1, Nat.le_trans h1 e2, hE.2 _ _ _ _ _ _ _ e3 h1 (Nat.le_refl _), ih e4 (Nat.le_refl _) h2⟩
theorem hLs.app {E : HE α} (hE : hFr G E) {h : mv_H} {ds' : List α} : ∀ {ds : List α} {x m y : Nat} {fr e e' : Option Nat}, hLs E h ds x m fr e → hLs E h ds' m y e e' → hLs E h (ds ++ ds') x y fr e' := by
  intro ds
  induction ds with
  | nil =>
    intro x m y fr e e' H1 H2
    obtain ⟨rfl, h2⟩ := H1
    exact hLs.mo hE H2 h2 (Nat.le_refl _)
  | cons d r ih =>
    intro x m y fr e e' ⟨a, mm, nx, e1, e2, e3, e4⟩ H2
    exact ⟨a, mm, nx, e1, e2, e3, ih e4 H2⟩
theorem hOL.le {E : HE α} {h : mv_H} {ds : List α} {x y : Nat} {fr la : Option Nat} (H : hOL E h ds x y fr la) : x ≤ y := by
  rcases H with ⟨_, _, _, h1⟩ | ⟨_, _, _, _, _, _, h1, h2, _⟩
  · exact h1
  · omega
theorem hOL.fr {E : HE α} (hE : hFr G E) {h h1 : mv_H} {ds : List α} {x y : Nat} {fr la : Option Nat} (H : hOL E h ds x y fr la) (k : ∀ b, x ≤ b → b < y → h1.2.2 b = h.2.2 b) (m : ∀ s t, mv_str G h s t → mv_str G h1 s t) : hOL E h1 ds x y fr la := by
  rcases H with H | ⟨i, d, a, mm, e1, e2, e3, e4, e5, e6⟩
  · exact Or.inl H
  · exact Or.inr ⟨i, d, a, mm, e1, e2.fr hE m (fun b x1 x2 => k b x1 (by omega)), e3, e4, hE.1 _ _ _ _ _ _ e5 (fun b x1 x2 => k b (by omega) x2) m, e6⟩
theorem hOL.mo {E : HE α} (hE : hFr G E) {h : mv_H} {ds : List α} {x y x' y' : Nat} {fr la : Option Nat} (H : hOL E h ds x y fr la) (h1 : x' ≤ x) (h2 : y ≤ y') : hOL E h ds x' y' fr la := by
  rcases H with ⟨a1, a2, a3, a4⟩ | ⟨i, d, a, mm, e1, e2, e3, e4, e5, e6⟩
  · exact Or.inl ⟨a1, a2, a3, by omega⟩
  · exact Or.inr ⟨i, d, a, mm, e1, e2.mo hE h1 (Nat.le_refl _), by omega, by omega, hE.2 _ _ _ _ _ _ _ e5 (Nat.le_refl _) h2, e6⟩
theorem hOL.ls {E : HE α} (hE : hFr G E) {h : mv_H} {ds : List α} {x y : Nat} {fr la : Option Nat} (H : hOL E h ds x y fr la) : hLs E h ds x y fr none := by
  rcases H with ⟨a1, a2, a3, a4⟩ | ⟨i, d, a, mm, e1, e2, e3, e4, e5, e6⟩
  · rw [a1]; exact ⟨a2, a4⟩
  · rw [e1]
    exact e2.app hE ⟨a, y, none, rfl, e4, e5, rfl, Nat.le_refl _⟩
theorem hAll_fr {T : HE dCnd} (hT : hFr G T) : hFr G (hAll T) := by
  refine ⟨fun h h1 x y a d ⟨a1, a2, ds, fr, la, pa, le, rel, ri, b1, b2, b3⟩ k m => ?_, fun h x y x' y' a d ⟨a1, a2, ds, fr, la, pa, le, rel, ri, b1, b2, b3⟩ h1 h2 => ?_⟩
  · exact ⟨a1, a2, ds, fr, la, pa, le, rel, ri, by rw [k a a1 a2]; exact b1, b2.fr hT (fun b x1 x2 => k b (by omega) x2) m, b3⟩
  · exact ⟨by omega, by omega, ds, fr, la, pa, le, rel, ri, b1, b2.mo hT (Nat.le_refl _) h2, b3⟩
theorem hAny_fr {T : HE dCnd} (hT : hFr G T) : hFr G (hAny T) := by
  refine ⟨fun h h1 x y a d ⟨a1, a2, ds, fr, la, pa, le, rel, ri, b1, b2, b3⟩ k m => ?_, fun h x y x' y' a d ⟨a1, a2, ds, fr, la, pa, le, rel, ri, b1, b2, b3⟩ h1 h2 => ?_⟩
  · exact ⟨a1, a2, ds, fr, la, pa, le, rel, ri, by rw [k a a1 a2]; exact b1, b2.fr (hAll_fr hT) (fun b x1 x2 => k b (by omega) x2) m, b3⟩
  · exact ⟨by omega, by omega, ds, fr, la, pa, le, rel, ri, b1, b2.mo (hAll_fr hT) (Nat.le_refl _) h2, b3⟩
/-- the level below, if there is one, is fine -/
def hLo (G : mv_G) (lo : Option HV) : Prop := ∀ L, lo = some L → hFr G L.1 ∧ hFr G L.2.1 ∧ hFr G L.2.2
theorem hSel_fr {lo : Option HV} (hL : hLo G lo) : hFr G (hSel G lo) := by
  refine ⟨fun h h1 x y a d ⟨a1, a2, kd, nm, f, to, st, hf, ht, cd, b1, b2⟩ k m => ⟨a1, a2, kd, nm, f, to, st, hf, ht, cd, by rw [k a a1 a2]; exact b1, ?_⟩, fun h x y x' y' a d ⟨a1, a2, kd, nm, f, to, st, hf, ht, cd, b1, b2⟩ h1 h2 => ⟨by omega, by omega, kd, nm, f, to, st, hf, ht, cd, b1, ?_⟩⟩
  · rcases b2 with ⟨e, u, z1, z2⟩ | b2 | b2 | b2 | ⟨e, b, c, L, z1, z2, z3, z4⟩
    · exact Or.inl ⟨e, u, m _ _ z1, z2⟩
    · exact Or.inr (Or.inl b2)
    · exact Or.inr (Or.inr (Or.inl b2))
    · exact Or.inr (Or.inr (Or.inr (Or.inl b2)))
    · exact Or.inr (Or.inr (Or.inr (Or.inr ⟨e, b, c, L, z1, z2, (hAny_fr (hL L z2).1).1 _ _ _ _ _ _ z3 (fun b x1 x2 => k b (by omega) x2) m, z4⟩)))
  · rcases b2 with b2 | b2 | b2 | b2 | ⟨e, b, c, L, z1, z2, z3, z4⟩
    · exact Or.inl b2
    · exact Or.inr (Or.inl b2)
    · exact Or.inr (Or.inr (Or.inl b2))
    · exact Or.inr (Or.inr (Or.inr (Or.inl b2)))
    · exact Or.inr (Or.inr (Or.inr (Or.inr ⟨e, b, c, L, z1, z2, (hAny_fr (hL L z2).1).2 _ _ _ _ _ _ _ z3 (Nat.le_refl _) h2, z4⟩)))
theorem hSeg_fr {lo : Option HV} (hL : hLo G lo) : hFr G (hSeg G lo) := by
  refine ⟨fun h h1 x y a d ⟨a1, a2, fr, la, ss, b1, b2, b3⟩ k m => ?_, fun h x y x' y' a d ⟨a1, a2, fr, la, ss, b1, b2, b3⟩ h1 h2 => ?_⟩
  · exact ⟨a1, a2, fr, la, ss, by rw [k a a1 a2]; exact b1, b2.fr (hSel_fr hL) (fun b x1 x2 => k b (by omega) x2) m, b3⟩
  · exact ⟨by omega, by omega, fr, la, ss, b1, b2.mo (hSel_fr hL) (Nat.le_refl _) h2, b3⟩
theorem hPth_fr {lo : Option HV} (hL : hLo G lo) : hFr G (hPth G lo) := by
  refine ⟨fun h h1 x y a d ⟨a1, a2, rt, fr, la, ss, b1, b2, b3⟩ k m => ?_, fun h x y x' y' a d ⟨a1, a2, rt, fr, la, ss, b1, b2, b3⟩ h1 h2 => ?_⟩
  · exact ⟨a1, a2, rt, fr, la, ss, by rw [k a a1 a2]; exact b1, b2.fr (hSeg_fr hL) (fun b x1 x2 => k b (by omega) x2) m, b3⟩
  · exact ⟨by omega, by omega, rt, fr, la, ss, b1, b2.mo (hSeg_fr hL) (Nat.le_refl _) h2, b3⟩
theorem hThg_fr {lo : Option HV} (hL : hLo G lo) : hFr G (hThg G lo) := by
  refine ⟨fun h h1 x y a d ⟨a1, a2, kd, pa, inn, b1, vk, vs, sr, nu, nm, ou, pl, af, be, en, b2, b3⟩ k m => ⟨a1, a2, kd, pa, inn, by rw [k a a1 (by omega)]; exact b1, vk, vs, sr, nu, nm, ou, pl, af, be, en, by rw [k (a + 1) (by omega) a2]; exact b2, ?_⟩, fun h x y x' y' a d ⟨a1, a2, kd, pa, inn, b1, vk, vs, sr, nu, nm, ou, pl, af, be, en, b2, b3⟩ h1 h2 => ⟨by omega, by omega, kd, pa, inn, b1, vk, vs, sr, nu, nm, ou, pl, af, be, en, b2, ?_⟩⟩
  · rcases b3 with ⟨e, tx, z1, z2⟩ | ⟨e, b, p, z1, z2, z3⟩ | ⟨e, b, c, L, z1, z2, z3, z4⟩ | ⟨e, b, p, L, z1, z2, z3, z4⟩
    · exact Or.inl ⟨e, tx, m _ _ z1, z2⟩
    · exact Or.inr (Or.inl ⟨e, b, p, z1, (hPth_fr hL).1 _ _ _ _ _ _ z2 (fun b x1 x2 => k b x1 (by omega)) m, z3⟩)
    · exact Or.inr (Or.inr (Or.inl ⟨e, b, c, L, z1, z2, (hL L z2).2.2.1 _ _ _ _ _ _ z3 (fun b x1 x2 => k b (by omega) x2) m, z4⟩))
    · exact Or.inr (Or.inr (Or.inr ⟨e, b, p, L, z1, z2, (hL L z2).2.1.1 _ _ _ _ _ _ z3 (fun b x1 x2 => k b (by omega) x2) m, z4⟩))
  · rcases b3 with b3 | ⟨e, b, p, z1, z2, z3⟩ | ⟨e, b, c, L, z1, z2, z3, z4⟩ | ⟨e, b, p, L, z1, z2, z3, z4⟩
    · exact Or.inl b3
    · exact Or.inr (Or.inl ⟨e, b, p, z1, (hPth_fr hL).2 _ _ _ _ _ _ _ z2 h1 (Nat.le_refl _), z3⟩)
    · exact Or.inr (Or.inr (Or.inl ⟨e, b, c, L, z1, z2, (hL L z2).2.2.2 _ _ _ _ _ _ _ z3 (Nat.le_refl _) h2, z4⟩))
    · exact Or.inr (Or.inr (Or.inr ⟨e, b, p, L, z1, z2, (hL L z2).2.1.2 _ _ _ _ _ _ _ z3 (Nat.le_refl _) h2, z4⟩))
theorem hTst_fr {lo : Option HV} (hL : hLo G lo) : hFr G (hTst G lo) := by
  refine ⟨fun h h1 x y a d H k m => ?_, fun h x y x' y' a d H h1 h2 => ?_⟩
  · rcases H with ⟨L, e1, e2⟩ | ⟨a1, a2, kd, fr, la, pa, le, rel, ri, b1, b2⟩
    · exact Or.inl ⟨L, e1, (hAny_fr (hL L e1).1).1 _ _ _ _ _ _ e2 k m⟩
    · refine Or.inr ⟨a1, a2, kd, fr, la, pa, le, rel, ri, by rw [k a a1 a2]; exact b1, ?_⟩
      rcases b2 with ⟨e, b, c, L, z1, z2, z3, z4⟩ | ⟨e, b, p, z1, z2, z3⟩ | ⟨e, c1, c2, d1, d2, r, z1, z2, z3, z4, z5⟩
      · exact Or.inl ⟨e, b, c, L, z1, z2, (hL L z2).1.1 _ _ _ _ _ _ z3 (fun b x1 x2 => k b (by omega) x2) m, z4⟩
      · exact Or.inr (Or.inl ⟨e, b, p, z1, (hPth_fr hL).1 _ _ _ _ _ _ z2 (fun b x1 x2 => k b x1 (by omega)) m, z3⟩)
      · exact Or.inr (Or.inr ⟨e, c1, c2, d1, d2, r, z1, z2, (hThg_fr hL).1 _ _ _ _ _ _ z3 (fun b x1 x2 => k b x1 (by omega)) m, (hThg_fr hL).1 _ _ _ _ _ _ z4 (fun b x1 x2 => k b (by omega) x2) m, z5⟩)
  · rcases H with ⟨L, e1, e2⟩ | ⟨a1, a2, kd, fr, la, pa, le, rel, ri, b1, b2⟩
    · exact Or.inl ⟨L, e1, (hAny_fr (hL L e1).1).2 _ _ _ _ _ _ _ e2 h1 h2⟩
    · refine Or.inr ⟨by omega, by omega, kd, fr, la, pa, le, rel, ri, b1, ?_⟩
      rcases b2 with ⟨e, b, c, L, z1, z2, z3, z4⟩ | ⟨e, b, p, z1, z2, z3⟩ | ⟨e, c1, c2, d1, d2, r, z1, z2, z3, z4, z5⟩
      · exact Or.inl ⟨e, b, c, L, z1, z2, (hL L z2).1.2 _ _ _ _ _ _ _ z3 (Nat.le_refl _) h2, z4⟩
      · exact Or.inr (Or.inl ⟨e, b, p, z1, (hPth_fr hL).2 _ _ _ _ _ _ _ z2 h1 (Nat.le_refl _), z3⟩)
      · exact Or.inr (Or.inr ⟨e, c1, c2, d1, d2, r, z1, z2, (hThg_fr hL).2 _ _ _ _ _ _ _ z3 h1 (Nat.le_refl _), (hThg_fr hL).2 _ _ _ _ _ _ _ z4 (Nat.le_refl _) h2, z5⟩)
theorem hLv_fr (n : Nat) : hFr G (hLv G n).1 ∧ hFr G (hLv G n).2.1 ∧ hFr G (hLv G n).2.2 := by
  induction n with
  | zero =>
    have : hLo G none := fun L z => by cases z
    exact ⟨hTst_fr this, hPth_fr this, hThg_fr this⟩
  | succ n ih =>
    have : hLo G (some (hLv G n)) := fun L z => by cases z; exact ih
    exact ⟨hTst_fr this, hPth_fr this, hThg_fr this⟩
end HF
