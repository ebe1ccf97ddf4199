/-! compiled queries, for the finder: lists, without their ends -/
def kAll (T : HE dCnd) : HE dCnd := fun h x y a d => x ≤ a ∧ a < y ∧ ∃ ds fr la pa le rel ri, h.2.2 a = some (cTst 1 fr la d.1 pa le rel ri) ∧ hLs T h ds (a + 1) y fr none ∧ d.2 = allR ds
def kAny (T : HE dCnd) : HE dCnd := fun h x y a d => x ≤ a ∧ a < y ∧ ∃ ds fr la pa le rel ri, h.2.2 a = some (cTst 0 fr la d.1 pa le rel ri) ∧ hLs (kAll T) h ds (a + 1) y fr none ∧ d.2 = anyR ds
def kSel (G : mv_G) (lo : Option HV) : HE (dSel × Bool) := fun h x y a d => x ≤ a ∧ a < y ∧ ∃ kd nm f to st hf ht cd, h.2.2 a = some (cSel kd nm f to st hf ht cd d.1) ∧
  ((kd = 0 ∧ ∃ u, mv_str G h nm u ∧ d.2 = (sNamed u, true)) ∨ (kd = 1 ∧ d.2 = (sAll, false)) ∨ (kd = 2 ∧ sm f ∧ d.2 = (sPlace f, true)) ∨
   (kd = 3 ∧ (sm f ∧ sm to ∧ sm st) ∧ ∃ bf bt, hf = b2i bf ∧ ht = b2i bt ∧ d.2 = (sStr bf f bt to st, false)) ∨
   (kd = 4 ∧ ∃ b c L, cd = some b ∧ lo = some L ∧ kAny L.1 h (a + 1) y b (none, c) ∧ d.2 = (sCond c, false)))
def kSeg (G : mv_G) (lo : Option HV) : HE ((Bool × List dSel) × Bool) := fun h x y a d => x ≤ a ∧ a < y ∧ ∃ fr la ss, h.2.2 a = some (cSeg (b2i d.2.1.1) fr la d.1) ∧ hLs (kSel G lo) h ss (a + 1) y fr none ∧ d.2.1.2 = ss.map (·.1) ∧ d.2.2 = (!d.2.1.1 && ss.length == 1 && ss.all (·.2))
def kPth (G : mv_G) (lo : Option HV) : HP (dPth × Bool × Nat) := fun h x y a d => x ≤ a ∧ a < y ∧ ∃ rt fr la ss, h.2.2 a = some (cPth (b2i rt) fr la (nI d.2.2) (b2i d.2.1)) ∧ hLs (kSeg G lo) h ss (a + 1) y fr none ∧ d = (pthD rt (ss.map (·.1)), ss.all (·.2), ss.length)
def kThg (G : mv_G) (lo : Option HV) : HP dThg := fun h x y a d => x ≤ a ∧ a + 1 < y ∧ ∃ kd pa inn, h.2.2 a = some (cThg kd pa inn (a + 1)) ∧ ∃ (vk vs : Int32) (sr : Nat) (nu : Int32) (nm : Nat) (ou pl af be en : Int32), h.2.2 (a + 1) = some (valE vk vs sr nu nm ou pl af be en) ∧
  ((kd = 0 ∧ ∃ tx, mv_str G h sr tx ∧ ¬ isB vk ∧ d = wrtV (vk, vs, tx)) ∨
   (kd = 1 ∧ ∃ b p, pa = some b ∧ kPth G lo h x a b p ∧ d = pthV p.1) ∨
   (kd = 2 ∧ ∃ b e L, inn = some b ∧ lo = some L ∧ L.2.2 h (a + 2) y b e ∧ d = lenV e) ∨
   (kd = 3 ∧ ∃ b p L, pa = some b ∧ lo = some L ∧ L.2.1 h (a + 2) y b p ∧ d = cntV p.1))
def kTst (G : mv_G) (lo : Option HV) : HE dCnd := fun h x y a d => (∃ L, lo = some L ∧ kAny L.1 h x y a d) ∨ (x ≤ a ∧ a < y ∧ ∃ kd fr la pa le rel ri, h.2.2 a = some (cTst kd fr la d.1 pa le rel ri) ∧
  ((kd = 2 ∧ ∃ b c L, fr = some b ∧ lo = some L ∧ L.1 h (a + 1) y b (none, c) ∧ d.2 = notR c) ∨
   (kd = 3 ∧ ∃ b p, pa = some b ∧ kPth G lo h x a b p ∧ d.2 = findR p.1) ∨
   (kd = 4 ∧ ∃ b1 b2 d1 d2 r, le = some b1 ∧ ri = some b2 ∧ kThg G lo h x a b1 d1 ∧ kThg G lo h (a + 1) y b2 d2 ∧ r ≤ 5 ∧ rel = nI r ∧ d.2 = cmpR r d1 d2)))
def kLv (G : mv_G) : Nat → HV
  | 0 => (kTst G none, kPth G none, kThg G none)
  | n + 1 => (kTst G (some (kLv G n)), kPth G (some (kLv G n)), kThg G (some (kLv G n)))
section KF
variable {G : mv_G} {α : Type}
theorem kAll_fr {T : HE dCnd} (hT : hFr G T) : hFr G (kAll T) := by
  refine ⟨fun h h1 x y a d ⟨a1, a2, ds, fr, la, pa, le, rel, ri, b1, b2, b3⟩ k m => ?_, fun h x y x' y' a d ⟨a1, a2, ds, fr, la, pa, le, rel, ri, b1, b2, b3⟩ h1 h2 => ?_⟩
  · exact ⟨a1, a2, ds, fr, la, pa, le, rel, ri, by rw [k a a1 a2]; exact b1, b2.fr hT m (fun b x1 x2 => k b (by omega) x2), b3⟩
  · exact ⟨by omega, by omega, ds, fr, la, pa, le, rel, ri, b1, b2.mo hT (Nat.le_refl _) h2, b3⟩
theorem kAny_fr {T : HE dCnd} (hT : hFr G T) : hFr G (kAny T) := by
  refine ⟨fun h h1 x y a d ⟨a1, a2, ds, fr, la, pa, le, rel, ri, b1, b2, b3⟩ k m => ?_, fun h x y x' y' a d ⟨a1, a2, ds, fr, la, pa, le, rel, ri, b1, b2, b3⟩ h1 h2 => ?_⟩
  · exact ⟨a1, a2, ds, fr, la, pa, le, rel, ri, by rw [k a a1 a2]; exact b1, b2.fr (kAll_fr hT) m (fun b x1 x2 => k b (by omega) x2), b3⟩
  · exact ⟨by omega, by omega, ds, fr, la, pa, le, rel, ri, b1, b2.mo (kAll_fr hT) (Nat.le_refl _) h2, b3⟩
theorem kSel_fr {lo : Option HV} (hL : hLo G lo) : hFr G (kSel G lo) := by
  refine ⟨fun h h1 x y a d ⟨a1, a2, kd, nm, f, to, st, hf, ht, cd, b1, b2⟩ k m => ⟨a1, a2, kd, nm, f, to, st, hf, ht, cd, by rw [k a a1 a2]; exact b1, ?_⟩, fun h x y x' y' a d ⟨a1, a2, kd, nm, f, to, st, hf, ht, cd, b1, b2⟩ h1 h2 => ⟨by omega, by omega, kd, nm, f, to, st, hf, ht, cd, b1, ?_⟩⟩
  · rcases b2 with ⟨e, u, z1, z2⟩ | b2 | b2 | b2 | ⟨e, b, c, L, z1, z2, z3, z4⟩
    · exact Or.inl ⟨e, u, m _ _ z1, z2⟩
    · exact Or.inr (Or.inl b2)
    · exact Or.inr (Or.inr (Or.inl b2))
    · exact Or.inr (Or.inr (Or.inr (Or.inl b2)))
    · exact Or.inr (Or.inr (Or.inr (Or.inr ⟨e, b, c, L, z1, z2, (kAny_fr (hL L z2).1).1 _ _ _ _ _ _ z3 (fun b x1 x2 => k b (by omega) x2) m, z4⟩)))
  · rcases b2 with b2 | b2 | b2 | b2 | ⟨e, b, c, L, z1, z2, z3, z4⟩
    · exact Or.inl b2
    · exact Or.inr (Or.inl b2)
    · exact Or.inr (Or.inr (Or.inl b2))
    · exact Or.inr (Or.inr (Or.inr (Or.inl b2)))
    · exact Or.inr (Or.inr (Or.inr (Or.inr ⟨e, b, c, L, z1, z2, (kAny_fr (hL L z2).1).2 _ _ _ _ _ _ _ z3 (Nat.le_refl _) h2, z4⟩)))
theorem kSeg_fr {lo : Option HV} (hL : hLo G lo) : hFr G (kSeg G lo) := by
  refine ⟨fun h h1 x y a d ⟨a1, a2, fr, la, ss, b1, b2, b3⟩ k m => ?_, fun h x y x' y' a d ⟨a1, a2, fr, la, ss, b1, b2, b3⟩ h1 h2 => ?_⟩
  · exact ⟨a1, a2, fr, la, ss, by rw [k a a1 a2]; exact b1, b2.fr (kSel_fr hL) m (fun b x1 x2 => k b (by omega) x2), b3⟩
  · exact ⟨by omega, by omega, fr, la, ss, b1, b2.mo (kSel_fr hL) (Nat.le_refl _) h2, b3⟩
theorem kPth_fr {lo : Option HV} (hL : hLo G lo) : hFr G (kPth G lo) := by
  refine ⟨fun h h1 x y a d ⟨a1, a2, rt, fr, la, ss, b1, b2, b3⟩ k m => ?_, fun h x y x' y' a d ⟨a1, a2, rt, fr, la, ss, b1, b2, b3⟩ h1 h2 => ?_⟩
  · exact ⟨a1, a2, rt, fr, la, ss, by rw [k a a1 a2]; exact b1, b2.fr (kSeg_fr hL) m (fun b x1 x2 => k b (by omega) x2), b3⟩
  · exact ⟨by omega, by omega, rt, fr, la, ss, b1, b2.mo (kSeg_fr hL) (Nat.le_refl _) h2, b3⟩
theorem kThg_fr {lo : Option HV} (hL : hLo G lo) : hFr G (kThg G lo) := by
  refine ⟨fun h h1 x y a d ⟨a1, a2, kd, pa, inn, b1, vk, vs, sr, nu, nm, ou, pl, af, be, en, b2, b3⟩ k m => ⟨a1, a2, kd, pa, inn, by rw [k a a1 (by omega)]; exact b1, vk, vs, sr, nu, nm, ou, pl, af, be, en, by rw [k (a + 1) (by omega) a2]; exact b2, ?_⟩, fun h x y x' y' a d ⟨a1, a2, kd, pa, inn, b1, vk, vs, sr, nu, nm, ou, pl, af, be, en, b2, b3⟩ h1 h2 => ⟨by omega, by omega, kd, pa, inn, b1, vk, vs, sr, nu, nm, ou, pl, af, be, en, b2, ?_⟩⟩
  · rcases b3 with ⟨e, tx, z1, z2⟩ | ⟨e, b, p, z1, z2, z3⟩ | ⟨e, b, c, L, z1, z2, z3, z4⟩ | ⟨e, b, p, L, z1, z2, z3, z4⟩
    · exact Or.inl ⟨e, tx, m _ _ z1, z2⟩
    · exact Or.inr (Or.inl ⟨e, b, p, z1, (kPth_fr hL).1 _ _ _ _ _ _ z2 (fun b x1 x2 => k b x1 (by omega)) m, z3⟩)
    · exact Or.inr (Or.inr (Or.inl ⟨e, b, c, L, z1, z2, (hL L z2).2.2.1 _ _ _ _ _ _ z3 (fun b x1 x2 => k b (by omega) x2) m, z4⟩))
    · exact Or.inr (Or.inr (Or.inr ⟨e, b, p, L, z1, z2, (hL L z2).2.1.1 _ _ _ _ _ _ z3 (fun b x1 x2 => k b (by omega) x2) m, z4⟩))
  · rcases b3 with b3 | ⟨e, b, p, z1, z2, z3⟩ | ⟨e, b, c, L, z1, z2, z3, z4⟩ | ⟨e, b, p, L, z1, z2, z3, z4⟩
    · exact Or.inl b3
    · exact Or.inr (Or.inl ⟨e, b, p, z1, (kPth_fr hL).2 _ _ _ _ _ _ _ z2 h1 (Nat.le_refl _), z3⟩)
    · exact Or.inr (Or.inr (Or.inl ⟨e, b, c, L, z1, z2, (hL L z2).2.2.2 _ _ _ _ _ _ _ z3 (Nat.le_refl _) h2, z4⟩))
    · exact Or.inr (Or.inr (Or.inr ⟨e, b, p, L, z1, z2, (hL L z2).2.1.2 _ _ _ _ _ _ _ z3 (Nat.le_refl _) h2, z4⟩))
theorem kTst_fr {lo : Option HV} (hL : hLo G lo) : hFr G (kTst G lo) := by
  refine ⟨fun h h1 x y a d H k m => ?_, fun h x y x' y' a d H h1 h2 => ?_⟩
  · rcases H with ⟨L, e1, e2⟩ | ⟨a1, a2, kd, fr, la, pa, le, rel, ri, b1, b2⟩
    · exact Or.inl ⟨L, e1, (kAny_fr (hL L e1).1).1 _ _ _ _ _ _ e2 k m⟩
    · refine Or.inr ⟨a1, a2, kd, fr, la, pa, le, rel, ri, by rw [k a a1 a2]; exact b1, ?_⟩
      rcases b2 with ⟨e, b, c, L, z1, z2, z3, z4⟩ | ⟨e, b, p, z1, z2, z3⟩ | ⟨e, c1, c2, d1, d2, r, z1, z2, z3, z4, z5⟩
      · exact Or.inl ⟨e, b, c, L, z1, z2, (hL L z2).1.1 _ _ _ _ _ _ z3 (fun b x1 x2 => k b (by omega) x2) m, z4⟩
      · exact Or.inr (Or.inl ⟨e, b, p, z1, (kPth_fr hL).1 _ _ _ _ _ _ z2 (fun b x1 x2 => k b x1 (by omega)) m, z3⟩)
      · exact Or.inr (Or.inr ⟨e, c1, c2, d1, d2, r, z1, z2, (kThg_fr hL).1 _ _ _ _ _ _ z3 (fun b x1 x2 => k b x1 (by omega)) m, (kThg_fr hL).1 _ _ _ _ _ _ z4 (fun b x1 x2 => k b (by omega) x2) m, z5⟩)
  · rcases H with ⟨L, e1, e2⟩ | ⟨a1, a2, kd, fr, la, pa, le, rel, ri, b1, b2⟩
    · exact Or.inl ⟨L, e1, (kAny_fr (hL L e1).1).2 _ _ _ _ _ _ _ e2 h1 h2⟩
    · refine Or.inr ⟨by omega, by omega, kd, fr, la, pa, le, rel, ri, b1, ?_⟩
      rcases b2 with ⟨e, b, c, L, z1, z2, z3, z4⟩ | ⟨e, b, p, z1, z2, z3⟩ | ⟨e, c1, c2, d1, d2, r, z1, z2, z3, z4, z5⟩
      · exact Or.inl ⟨e, b, c, L, z1, z2, (hL L z2).1.2 _ _ _ _ _ _ _ z3 (Nat.le_refl _) h2, z4⟩
      · exact Or.inr (Or.inl ⟨e, b, p, z1, (kPth_fr hL).2 _ _ _ _ _ _ _ z2 h1 (Nat.le_refl _), z3⟩)
      · exact Or.inr (Or.inr ⟨e, c1, c2, d1, d2, r, z1, z2, (kThg_fr hL).2 _ _ _ _ _ _ _ z3 h1 (Nat.le_refl _), (kThg_fr hL).2 _ _ _ _ _ _ _ z4 (Nat.le_refl _) h2, z5⟩)
theorem kLv_fr (n : Nat) : hFr G (kLv G n).1 ∧ hFr G (kLv G n).2.1 ∧ hFr G (kLv G n).2.2 := by
  induction n with
  | zero =>
    have : hLo G none := fun L z => by cases z
    exact ⟨kTst_fr this, kPth_fr this, kThg_fr this⟩
  | succ n ih =>
    have : hLo G (some (kLv G n)) := fun L z => by cases z; exact ih
    exact ⟨kTst_fr this, kPth_fr this, kThg_fr this⟩
/-- the cell, and the follower -/
theorem hLs.cv {E E' : HE α} {h : mv_H} (cv : ∀ x y a d, E h x y a d → E' h x y a d) : ∀ {ds : List α} {x y : Nat} {fr e : Option Nat}, hLs E h ds x y fr e → hLs E' h ds x y fr e := by
  intro ds
  induction ds with
  | nil => intro x y fr e H; exact H
  | cons d r ih =>
    intro x y fr e ⟨a, m, nx, e1, e2, e3, e4⟩
    exact ⟨a, m, nx, e1, e2, cv _ _ _ _ e3, ih e4⟩
theorem hAll_k {T T' : HE dCnd} (hT : hFr G T) {h : mv_H} (cv : ∀ x y a d, T h x y a d → T' h x y a d) : ∀ x y a d, hAll T h x y a d → kAll T' h x y a d := fun x y a d ⟨a1, a2, ds, fr, la, pa, le, rel, ri, b1, b2, b3⟩ => ⟨a1, a2, ds, fr, la, pa, le, rel, ri, b1, (b2.ls hT).cv cv, b3⟩
theorem hAny_k {T T' : HE dCnd} (hT : hFr G T) {h : mv_H} (cv : ∀ x y a d, T h x y a d → T' h x y a d) : ∀ x y a d, hAny T h x y a d → kAny T' h x y a d := fun x y a d ⟨a1, a2, ds, fr, la, pa, le, rel, ri, b1, b2, b3⟩ => ⟨a1, a2, ds, fr, la, pa, le, rel, ri, b1, (b2.ls (hAll_fr hT)).cv (hAll_k hT cv), b3⟩
/-- what the level below says goes over -/
def cvL (h : mv_H) (lo lo' : Option HV) : Prop := (lo = none ∧ lo' = none) ∨ ∃ L L', lo = some L ∧ lo' = some L' ∧ (∀ x y a d, L.1 h x y a d → L'.1 h x y a d) ∧ (∀ x y a d, L.2.1 h x y a d → L'.2.1 h x y a d) ∧ ∀ x y a d, L.2.2 h x y a d → L'.2.2 h x y a d
theorem hSel_k {lo lo' : Option HV} (hL : hLo G lo) {h : mv_H} (cv : cvL h lo lo') : ∀ x y a d, hSel G lo h x y a d → kSel G lo' h x y a d := fun x y a d ⟨a1, a2, kd, nm, f, to, st, hf, ht, cd, b1, b2⟩ => ⟨a1, a2, kd, nm, f, to, st, hf, ht, cd, b1, by
  rcases b2 with b2 | b2 | b2 | b2 | ⟨e, b, c, L, z1, z2, z3, z4⟩
  · exact Or.inl b2
  · exact Or.inr (Or.inl b2)
  · exact Or.inr (Or.inr (Or.inl b2))
  · exact Or.inr (Or.inr (Or.inr (Or.inl b2)))
  · rcases cv with ⟨c1, _⟩ | ⟨L1, L2, c1, c2, c3, _⟩
    · rw [c1] at z2; cases z2
    · have hLL := hL L z2
      rw [c1] at z2
      cases z2
      exact Or.inr (Or.inr (Or.inr (Or.inr ⟨e, b, c, L2, z1, c2, hAny_k hLL.1 c3 _ _ _ _ z3, z4⟩)))⟩
theorem hSeg_k {lo lo' : Option HV} (hL : hLo G lo) {h : mv_H} (cv : cvL h lo lo') : ∀ x y a d, hSeg G lo h x y a d → kSeg G lo' h x y a d := fun x y a d ⟨a1, a2, fr, la, ss, b1, b2, b3⟩ => ⟨a1, a2, fr, la, ss, b1, (b2.ls (hSel_fr hL)).cv (hSel_k hL cv), b3⟩
theorem hPth_k {lo lo' : Option HV} (hL : hLo G lo) {h : mv_H} (cv : cvL h lo lo') : ∀ x y a d, hPth G lo h x y a d → kPth G lo' h x y a d := fun x y a d ⟨a1, a2, rt, fr, la, ss, b1, b2, b3⟩ => ⟨a1, a2, rt, fr, la, ss, b1, (b2.ls (hSeg_fr hL)).cv (hSeg_k hL cv), b3⟩
theorem hThg_k {lo lo' : Option HV} (hL : hLo G lo) {h : mv_H} (cv : cvL h lo lo') : ∀ x y a d, hThg G lo h x y a d → kThg G lo' h x y a d := fun x y a d ⟨a1, a2, kd, pa, inn, b1, vk, vs, sr, nu, nm, ou, pl, af, be, en, b2, b3⟩ => ⟨a1, a2, kd, pa, inn, b1, vk, vs, sr, nu, nm, ou, pl, af, be, en, b2, by
  rcases b3 with b3 | ⟨e, b, p, z1, z2, z3⟩ | ⟨e, b, c, L, z1, z2, z3, z4⟩ | ⟨e, b, p, L, z1, z2, z3, z4⟩
  · exact Or.inl b3
  · exact Or.inr (Or.inl ⟨e, b, p, z1, hPth_k hL cv _ _ _ _ z2, z3⟩)
  · rcases cv with ⟨c1, _⟩ | ⟨L1, L2, c1, c2, c3, c4, c5⟩
    · rw [c1] at z2; cases z2
    · rw [c1] at z2
      cases z2
      exact Or.inr (Or.inr (Or.inl ⟨e, b, c, L2, z1, c2, c5 _ _ _ _ z3, z4⟩))
  · rcases cv with ⟨c1, _⟩ | ⟨L1, L2, c1, c2, c3, c4, c5⟩
    · rw [c1] at z2; cases z2
    · rw [c1] at z2
      cases z2
      exact Or.inr (Or.inr (Or.inr ⟨e, b, p, L2, z1, c2, c4 _ _ _ _ z3, z4⟩))⟩
theorem hTst_k {lo lo' : Option HV} (hL : hLo G lo) {h : mv_H} (cv : cvL h lo lo') : ∀ x y a d, hTst G lo h x y a d → kTst G lo' h x y a d := fun x y a d H => by
  rcases H with ⟨L, e1, e2⟩ | ⟨a1, a2, kd, fr, la, pa, le, rel, ri, b1, b2⟩
  · rcases id cv with ⟨c1, _⟩ | ⟨L1, L2, c1, c2, c3, _⟩
    · rw [c1] at e1; cases e1
    · have hLL := hL L e1
      rw [c1] at e1
      cases e1
      exact Or.inl ⟨L2, c2, hAny_k hLL.1 c3 _ _ _ _ e2⟩
  · refine Or.inr ⟨a1, a2, kd, fr, la, pa, le, rel, ri, b1, ?_⟩
    rcases b2 with ⟨e, b, c, L, z1, z2, z3, z4⟩ | ⟨e, b, p, z1, z2, z3⟩ | ⟨e, c1, c2, d1, d2, r, z1, z2, z3, z4, z5⟩
    · rcases cv with ⟨c1, _⟩ | ⟨L1, L2, c1, c2, c3, _⟩
      · rw [c1] at z2; cases z2
      · rw [c1] at z2
        cases z2
        exact Or.inl ⟨e, b, c, L2, z1, c2, c3 _ _ _ _ z3, z4⟩
    · exact Or.inr (Or.inl ⟨e, b, p, z1, hPth_k hL cv _ _ _ _ z2, z3⟩)
    · exact Or.inr (Or.inr ⟨e, c1, c2, d1, d2, r, z1, z2, hThg_k hL cv _ _ _ _ z3, hThg_k hL cv _ _ _ _ z4, z5⟩)
theorem hLv_k {h : mv_H} : ∀ n, cvL h (some (hLv G n)) (some (kLv G n)) := by
  intro n
  induction n with
  | zero =>
    have hL : hLo G none := fun L z => by cases z
    have cv : cvL h none none := Or.inl ⟨rfl, rfl⟩
    exact Or.inr ⟨_, _, rfl, rfl, hTst_k hL cv, hPth_k hL cv, hThg_k hL cv⟩
  | succ n ih =>
    have hL : hLo G (some (hLv G n)) := fun L z => by cases z; exact hLv_fr n
    exact Or.inr ⟨_, _, rfl, rfl, hTst_k hL ih, hPth_k hL ih, hThg_k hL ih⟩
/-- a compiled query, for the finder -/
def KP (G : mv_G) : HP (dPth × Bool × Nat) := kPth G (some (kLv G 3))
theorem KP_fr : hFr G (KP G) := kPth_fr (fun L z => by cases z; exact kLv_fr 3)
theorem QP.k {h : mv_H} {x y a : Nat} {d : dPth × Bool × Nat} (H : QP G h x y a d) : KP G h x y a d := hPth_k (fun L z => by cases z; exact hLv_fr 3) (hLv_k 3) _ _ _ _ H
end KF
