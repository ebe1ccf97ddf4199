/-! What a query says: not a tree but what it finds; the number beside it counts the nodes that segments went from. -/
abbrev eR (α : Type) : Type := Option (α × Nat)
abbrev dPth : Type := dS → Nat → eR (List Nat)
abbrev dSel : Type := dS → Nat → List Nat → eR (List Nat)
abbrev dCnd : Type := dS → Nat → eR Bool
abbrev vQ : Type := Nat ⊕ (Int32 × Int32 × List Nat)
abbrev dThg : Type := dS → Nat → eR (Option vQ)
def eB {α β : Type} (x : eR α) (f : α → eR β) : eR β := match x with
  | none => none
  | some (a, k) => match f a with
    | none => none
    | some (b, j) => some (b, k + j)
def addR (row : List Nat) (c : Nat) : Option (List Nat) := if 300 ≤ row.length then none else some (row ++ [c])
def addsR : List Nat → List Nat → Option (List Nat)
  | row, [] => some row
  | row, c :: cs => match addR row c with
    | none => none
    | some r => addsR r cs
def e0 {α : Type} (x : Option α) : eR α := match x with
  | none => none
  | some a => some (a, 0)
def sNamed (nm : List Nat) : dSel := fun D n row => e0 (addsR row (if nkd (D.2 n) = 6 then (kidN D n nm).toList else []))
def sAll : dSel := fun D n row => e0 (addsR row (nki (D.2 n)))
def frB (x : Int) (len : Nat) : Int := if x < 0 then (len : Int) + x else x
def sPlace (i : Int32) : dSel := fun D n row => e0 (addsR row (if nkd (D.2 n) = 5 then (if frB i.toInt (nki (D.2 n)).length < 0 then [] else ((nki (D.2 n))[(frB i.toInt (nki (D.2 n)).length).toNat]?).toList) else []))
/-- the places of a stretch -/
def stF (hf : Bool) (f st : Int) (len : Nat) : Int := if 0 < st then (if hf = true then max 0 (frB f len) else 0) else
  (let p := if hf = true then frB f len else (len : Int) - 1
   if p < len then p else p + ((p - len) / (-st) + 1) * st)
def stE (ht : Bool) (to st : Int) (len : Nat) : Int := if ht = true then frB to len else if 0 < st then (len : Int) else -1
def strP (hf : Bool) (f : Int) (ht : Bool) (to st : Int) (len : Nat) : List Nat := (List.range len).filterMap (fun (i : Nat) => (fun (p : Int) => if (if 0 < st then p < stE ht to st len else stE ht to st len < p) ∧ 0 ≤ p ∧ p < len then some p.toNat else none) (stF hf f st len + i * st))
def sStr (hf : Bool) (f : Int32) (ht : Bool) (to st : Int32) : dSel := fun D n row => e0 (addsR row (if nkd (D.2 n) = 5 ∧ st ≠ 0 then (strP hf f.toInt ht to.toInt st.toInt (nki (D.2 n)).length).filterMap (fun p => (nki (D.2 n))[p]?) else []))
def selC (c : dCnd) (D : dS) : List Nat → List Nat → eR (List Nat)
  | [], row => some (row, 0)
  | ch :: r, row => eB (c D ch) fun b => eB (e0 (if b = true then addR row ch else some row)) fun row' => selC c D r row'
def sCond (c : dCnd) : dSel := fun D n row => selC c D (nki (D.2 n)) row
def selsR (D : dS) (n : Nat) : List dSel → List Nat → eR (List Nat)
  | [], row => some (row, 0)
  | s :: r, row => eB (s D n row) fun row' => selsR D n r row'
def nodsR (D : dS) (ss : List dSel) : Nat → Nat → List Nat → eR (List Nat)
  | 0, _, row => some (row, 0)
  | m + 1, n, row => eB (some ((), 1)) fun _ => eB (selsR D n ss row) fun row' => nodsR D ss m (n + 1) row'
def segR (D : dS) (sg : Bool × List dSel) : List Nat → List Nat → eR (List Nat)
  | [], row => some (row, 0)
  | n :: r, row => eB (nodsR D sg.2 (if sg.1 = true then nAf D n - n else 1) n row) fun row' => segR D sg r row'
def pathR (D : dS) : List (Bool × List dSel) → List Nat → eR (List Nat)
  | [], row => some (row, 0)
  | s :: r, row => eB (segR D s row []) fun row' => pathR D r row'
def pthD (rt : Bool) (sgs : List (Bool × List dSel)) : dPth := fun D n => pathR D sgs [if rt = true then 0 else n]
def anyR : List dCnd → dCnd
  | [] => fun _ _ => some (false, 0)
  | c :: r => fun D n => eB (c D n) fun b => eB (anyR r D n) fun b' => some (b || b', 0)
def allR : List dCnd → dCnd
  | [] => fun _ _ => some (true, 0)
  | c :: r => fun D n => eB (c D n) fun b => eB (allR r D n) fun b' => some (b && b', 0)
def notR (c : dCnd) : dCnd := fun D n => eB (c D n) fun b => some (!b, 0)
def findR (p : dPth) : dCnd := fun D n => eB (p D n) fun r => some (!r.isEmpty, 0)
def vkd (D : dS) (v : vQ) : Int32 := match v with
  | .inl n => nkd (D.2 n)
  | .inr q => q.1
def vsz (D : dS) (v : vQ) : Int32 := match v with
  | .inl n => nsz (D.2 n)
  | .inr q => q.2.1
def vtx (D : dS) (v : vQ) : List Nat := match v with
  | .inl n => ntx (D.2 n)
  | .inr q => q.2.2
def pthV (p : dPth) : dThg := fun D n => eB (p D n) fun r => some (r.head?.map .inl, 0)
def wrtV (v : Int32 × Int32 × List Nat) : dThg := fun _ _ => some (some (.inr v), 0)
def lenV (h : dThg) : dThg := fun D n => eB (h D n) fun v => some (match v with | none => none | some x => if vkd D x < 4 then none else some (.inr (3, vsz D x, [])), 0)
def cntV (p : dPth) : dThg := fun D n => eB (p D n) fun r => some (some (.inr (3, nI r.length, [])), 0)
def alkS (D : dS) (rec : Nat → Nat → Bool) (i j : Nat) : List Nat → Nat → Bool
  | [], _ => true
  | c :: r, k => (match (if nkd (D.2 i) = 5 then (nki (D.2 j))[k]? else kidN D j (nnm (D.2 c))) with
    | none => false
    | some d => rec c d) && alkS D rec i j r (k + 1)
def alk (D : dS) : Nat → Nat → Nat → Bool
  | 0, i, j => i == j
  | f + 1, i, j => i == j || (nkd (D.2 i) == nkd (D.2 j) && (if nkd (D.2 i) = 3 then nsz (D.2 i) == nsz (D.2 j) else if nkd (D.2 i) = 4 then ntx (D.2 i) == ntx (D.2 j) else if nkd (D.2 i) = 5 ∨ nkd (D.2 i) = 6 then nsz (D.2 i) == nsz (D.2 j) && alkS D (alk D f) i j (nki (D.2 i)) 0 else true))
def eqV (D : dS) (a b : Option vQ) : Bool := match a, b with
  | none, none => true
  | some (.inl i), some (.inl j) => alk D 7 i j
  | some x, some y => vkd D x == vkd D y && (if vkd D x = 3 then vsz D x == vsz D y else if vkd D x = 4 then vtx D x == vtx D y else true)
  | _, _ => false
def lexL : List Nat → List Nat → Bool
  | [], [] => false
  | [], _ :: _ => true
  | _ :: _, [] => false
  | a :: r, b :: q => if a = b then lexL r q else decide (a < b)
def lesV (D : dS) (a b : Option vQ) : Bool := match a, b with
  | some x, some y => vkd D x == vkd D y && (if vkd D x = 3 then decide (vsz D x < vsz D y) else decide (vkd D x = 4) && lexL (vtx D x) (vtx D y))
  | _, _ => false
def cmpV (D : dS) (r : Nat) (a b : Option vQ) : Bool := match r with
  | 0 => eqV D a b
  | 1 => !eqV D a b
  | 2 => lesV D a b
  | 3 => lesV D a b || eqV D a b
  | 4 => lesV D b a
  | _ => lesV D b a || eqV D a b
def cmpR (r : Nat) (a b : dThg) : dCnd := fun D n => eB (a D n) fun x => eB (b D n) fun y => some (cmpV D r x y, 0)
/-! how it is read; what may lie inside one of ? ! ( is read by the level below -/
abbrev Rd (α : Type) : Type := Nat → (α × Nat) ⊕ Nat
def rB {α β : Type} (x : (α × Nat) ⊕ Nat) (f : α → Nat → (β × Nat) ⊕ Nat) : (β × Nat) ⊕ Nat := match x with
  | .inr w => .inr w
  | .inl (a, p) => f a p
def exC (t : List Nat) (c : Nat) : Rd Unit := fun p => if lk t p = c then .inl ((), p + 1) else .inr p
abbrev Lv : Type := Rd dCnd × Rd (dPth × Bool × Nat) × Rd dThg
def qMore (t : List Nat) (ch : Nat) (rd : Rd dCnd) : Nat → Rd (List dCnd)
  | 0, p => .inl ([], p)
  | k + 1, p => if lk t p = ch then rB (exC t ch (p + 1)) fun _ p1 => rB (rd p1) fun c p2 => rB (qMore t ch rd k p2) fun cs p3 => .inl (c :: cs, p3) else .inl ([], p)
def qSeq (t : List Nat) (ch : Nat) (rd : Rd dCnd) : Rd (List dCnd) := fun p => rB (rd p) fun c p1 => rB (qMore t ch rd 160 p1) fun cs p2 => .inl (c :: cs, p2)
def qAll (t : List Nat) (rd : Rd dCnd) : Rd dCnd := fun p => rB (qSeq t 38 rd p) fun cs p1 => .inl (allR cs, p1)
def qAny (t : List Nat) (rd : Rd dCnd) : Rd dCnd := fun p => rB (qSeq t 124 (qAll t rd) p) fun cs p1 => .inl (anyR cs, p1)
abbrev isNm (t : List Nat) (p : Nat) : Prop := isDg t p ∨ lk t p = 45

def qNum (t : List Nat) (dflt : Int32) : Rd (Bool × Int32) := fun p => if isNm t p then rB (rdN t 3 p) fun v p1 => .inl ((true, v), p1) else .inl ((false, dflt), p)
def qStr (t : List Nat) (hf : Bool) (f : Int32) : Rd (dSel × Bool) := fun p => rB (exC t 58 p) fun _ p1 => rB (qNum t 0 p1) fun to p2 => if lk t p2 = 58 then rB (qNum t 1 (p2 + 1)) fun st p3 => .inl ((sStr hf f to.1 to.2 st.2, false), p3) else .inl ((sStr hf f to.1 to.2 1, false), p2)
def rdQ (t : List Nat) (qt : Nat) : Rd (List Nat) := fun p => match rdS t qt qt p with
  | .inr w => .inr w
  | .inl q => .inl (sl t (p + 1) (q - (p + 1)), q + 1)
def qSel (t : List Nat) (lo : Option Lv) : Rd (dSel × Bool) := fun p =>
  if lk t p = 39 then rB (rdQ t 39 p) fun nm p1 => .inl ((sNamed nm, true), p1)
  else if lk t p = 42 then .inl ((sAll, false), p + 1)
  else if lk t p = 63 then (match lo with
    | none => .inr p
    | some L => rB (qAny t L.1 (p + 1)) fun c p1 => .inl ((sCond c, false), p1))
  else if lk t p = 58 then qStr t false 0 p
  else rB (rdN t 3 p) fun v p1 => if lk t p1 = 58 then qStr t true v p1 else .inl ((sPlace v, true), p1)
def qSels (t : List Nat) (lo : Option Lv) : Nat → Rd (List (dSel × Bool))
  | 0, p => .inr p
  | k + 1, p => rB (qSel t lo p) fun s p1 => if k ≠ 0 ∧ lk t p1 = 44 then rB (qSels t lo k (p1 + 1)) fun ss p2 => .inl (s :: ss, p2) else rB (exC t 93 p1) fun _ p2 => .inl ([s], p2)
/-- a segment, and whether it finds one node at most -/
def qSeg (t : List Nat) (lo : Option Lv) : Rd ((Bool × List dSel) × Bool) := fun p =>
  (fun (dot bw : Bool) (p2 : Nat) =>
    if lk t p2 = 91 ∧ (dot = false ∨ bw = true) then rB (qSels t lo 4 (p2 + 1)) fun ss p3 => .inl (((bw, ss.map (·.1)), !bw && ss.length == 1 && ss.all (·.2)), p3)
    else if lk t p2 = 42 then .inl (((bw, [sAll]), false), p2 + 1)
    else match rdM t p2 with
      | .inr w => .inr w
      | .inl p3 => .inl (((bw, [sNamed (sl t p2 (p3 - p2))]), !bw), p3))
  (lk t p == 46) (lk t p == 46 && lk t (p + 1) == 46) (if lk t p = 46 then (if lk t (p + 1) = 46 then p + 2 else p + 1) else p)
def qSegs (t : List Nat) (lo : Option Lv) : Nat → Rd (List ((Bool × List dSel) × Bool))
  | 0, p => .inl ([], p)
  | k + 1, p => if lk t p = 46 ∨ lk t p = 91 then rB (qSeg t lo p) fun s p1 => rB (qSegs t lo k p1) fun ss p2 => .inl (s :: ss, p2) else .inl ([], p)
def qPath (t : List Nat) (lo : Option Lv) : Rd (dPth × Bool × Nat) := fun p => rB (qSegs t lo 160 (p + 1)) fun ss p1 => .inl ((pthD (lk t p == 36) (ss.map (·.1)), ss.all (·.2), ss.length), p1)
abbrev isPt (t : List Nat) (p : Nat) : Prop := lk t p = 64 ∨ lk t p = 36

def exWd (t v : List Nat) : Rd Unit := fun p => match exW t v v.length 0 p with
  | .inr w => .inr w
  | .inl q => .inl ((), q)
def qThg (t : List Nat) (lo : Option Lv) : Rd dThg := fun p =>
  if isPt t p then rB (qPath t lo p) fun d p1 => if d.2.1 = true then .inl (pthV d.1, p1) else .inr p
  else if lk t p = 108 then rB (exWd t tLen p) fun _ p1 => if lk t p1 = 40 then (match lo with
    | none => .inr p1
    | some L => rB (L.2.2 (p1 + 1)) fun h p2 => rB (exC t 41 p2) fun _ p3 => .inl (lenV h, p3)) else .inr p1
  else if lk t p = 99 then rB (exWd t tCnt p) fun _ p1 => if lk t p1 = 40 then (match lo with
    | none => .inr p1
    | some L => if isPt t (p1 + 1) then rB (L.2.1 (p1 + 1)) fun d p2 => rB (exC t 41 p2) fun _ p3 => .inl (cntV d.1, p3) else .inr (p1 + 1)) else .inr p1
  else match rdP t 39 39 p with
    | .inr w => .inr w
    | .inl (kd, sz, tx, p1) => .inl (wrtV (kd, sz, tx), p1)
def qRel (t : List Nat) : Rd Nat := fun p =>
  if lk t p = 60 then (if lk t (p + 1) = 61 then .inl (3, p + 2) else .inl (2, p + 1))
  else if lk t p = 62 then (if lk t (p + 1) = 61 then .inl (5, p + 2) else .inl (4, p + 1))
  else if lk t p = 33 then (if lk t (p + 1) = 61 then .inl (1, p + 2) else .inr (p + 1))
  else if lk t p = 61 then (if lk t (p + 1) = 61 then .inl (0, p + 2) else .inr (p + 1)) else .inr p
def qCmp (t : List Nat) (lo : Option Lv) (l : dThg) : Rd dCnd := fun p => rB (qRel t p) fun r p1 => rB (qThg t lo p1) fun h p2 => .inl (cmpR r l h, p2)
def qTst (t : List Nat) (lo : Option Lv) : Rd dCnd := fun p =>
  if lk t p = 33 then (match lo with
    | none => .inr p
    | some L => rB (L.1 (p + 1)) fun c p1 => .inl (notR c, p1))
  else if lk t p = 40 then (match lo with
    | none => .inr p
    | some L => rB (qAny t L.1 (p + 1)) fun c p1 => rB (exC t 41 p1) fun _ p2 => .inl (c, p2))
  else if isPt t p then rB (qPath t lo p) fun d p1 => if lk t p1 = 61 ∨ lk t p1 = 33 ∨ lk t p1 = 60 ∨ lk t p1 = 62 then (if d.2.1 = true then qCmp t lo (pthV d.1) p1 else .inr p) else .inl (findR d.1, p1)
  else rB (qThg t lo p) fun h p1 => qCmp t lo h p1
def qLv (t : List Nat) : Nat → Lv
  | 0 => (qTst t none, qPath t none, qThg t none)
  | n + 1 => (qTst t (some (qLv t n)), qPath t (some (qLv t n)), qThg t (some (qLv t n)))
def pQ (t : List Nat) : (dPth × Nat) ⊕ Nat := if lk t 0 = 36 then (match (qLv t 4).2.1 0 with
  | .inr w => .inr w
  | .inl (d, p) => if p < t.length then .inr p else .inl (d.1, d.2.2)) else .inr 0
