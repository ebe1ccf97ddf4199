/-! What a method asks of its heap, piece by piece: w_ is read off the bytecode, v_ says that it is enough. -/
def vgi (h : mv_H) (a ci k : Nat) (P : Int32 → Prop) : Prop := ∃ fs x, h.2.2 a = some (.inr (ci, fs)) ∧ fs[k]? = some (.int x) ∧ P x
def vgb (h : mv_H) (a ci k : Nat) (P : Nat → Prop) : Prop := ∃ fs x, h.2.2 a = some (.inr (ci, fs)) ∧ fs[k]? = some (.ref x) ∧ P x
def vgr (h : mv_H) (a ci k : Nat) (P : Option Nat → Prop) : Prop := ∃ fs x, h.2.2 a = some (.inr (ci, fs)) ∧ fs[k]? = some (va_rf x) ∧ P x
def vpu (G : mv_G) (h : mv_H) (a ci k : Nat) (v : Value) (P : mv_H → Prop) : Prop := ∃ fs, h.2.2 a = some (.inr (ci, fs)) ∧ G.2.2.1 ≤ a ∧ k < fs.length ∧ P (mv_set h a (.inr (ci, fs.set k v)))
def vnn (r : Option Nat) (P : Nat → Prop) : Prop := ∃ a, r = some a ∧ P a
def vob (h : mv_H) (a ci : Nat) (P : Prop) : Prop := (∃ fs, h.2.2 a = some (.inr (ci, fs))) ∧ P
def vai (G : mv_G) (h : mv_H) (a t : Nat) (i : Int32) (P : Int32 → Prop) : Prop := ∃ n f, h.2.2 a = some (.inl (mv_t G t, n, .inl f)) ∧ vp_in i n ∧ P (f i.toNatClampNeg)
def vab (G : mv_G) (h : mv_H) (a t : Nat) (i : Int32) (P : Nat → Prop) : Prop := ∃ n f x, h.2.2 a = some (.inl (mv_t G t, n, .inr (.inr (.inr (.inr f))))) ∧ vp_in i n ∧ f i.toNatClampNeg = some x ∧ P x
def vsi (G : mv_G) (h : mv_H) (a t : Nat) (i x : Int32) (P : mv_H → Prop) : Prop := ∃ n f, h.2.2 a = some (.inl (mv_t G t, n, .inl f)) ∧ G.2.2.1 ≤ a ∧ vp_in i n ∧ P (mv_set h a (.inl (mv_t G t, n, .inl (upd f i.toNatClampNeg x))))
def vsa (G : mv_G) (h : mv_H) (a t ci : Nat) (i : Int32) (x : Nat) (P : mv_H → Prop) : Prop := ∃ n f, h.2.2 a = some (.inl (mv_t G t, n, .inr (.inr (.inr (.inr f))))) ∧ (∃ vs, h.2.2 x = some (.inr (ci, vs))) ∧ G.2.2.1 ≤ a ∧ vp_in i n ∧ P (mv_set h a (.inl (mv_t G t, n, .inr (.inr (.inr (.inr (va_up f i.toNatClampNeg (some x))))))))
def vln (G : mv_G) (h : mv_H) (a t : Nat) (P : Int32 → Prop) : Prop := ∃ x : vp_A, h.2.2 a = some (.inl (mv_t G t, x)) ∧ P (Int32.ofNat x.1)
def vnw (h : mv_H) (n : Nat) (e : va_E) (P : Nat → mv_H → Prop) : Prop := P h.1 (mv_new h n e)
def vif (c : Prop) (A B : Prop) : Prop := (c → A) ∧ (¬ c → B)
def vnl (r : Option Nat) (A : Prop) (B : Nat → Prop) : Prop := (r = none → A) ∧ ∀ a, r = some a → B a
def vst (G : mv_G) (own : String) (k : Nat) (tx : String) (P : Nat → Prop) : Prop := ∃ a, mv_lt G own k tx a ∧ P a
def vI (X : String × Nat → mv_H → Prop) (P : Int32 → mv_H → Prop) : mv_O → mv_H → Prop := fun o h1 => (∃ x, o = .inl (some (.int x)) ∧ P x h1) ∨ ∃ E, o = .inr E ∧ X E h1
def vB (X : String × Nat → mv_H → Prop) (P : Nat → mv_H → Prop) : mv_O → mv_H → Prop := fun o h1 => (∃ x, o = .inl (some (.ref x)) ∧ P x h1) ∨ ∃ E, o = .inr E ∧ X E h1
def vR (X : String × Nat → mv_H → Prop) (P : Option Nat → mv_H → Prop) : mv_O → mv_H → Prop := fun o h1 => (∃ x, o = .inl (some (va_rf x)) ∧ P x h1) ∨ ∃ E, o = .inr E ∧ X E h1
def vU (X : String × Nat → mv_H → Prop) (P : mv_H → Prop) : mv_O → mv_H → Prop := fun o h1 => (o = .inl none ∧ P h1) ∨ ∃ E, o = .inr E ∧ X E h1
section VC0
variable {G : mv_G} {h : mv_H} {a ci k t n own : Nat} {i x : Int32} {v : Value} {e : va_E} {r : Option Nat} {c A B : Prop}
theorem vgi_e {P : Int32 → Prop} (hq : vgi h a ci k P) : ∃ fs x, h.2.2 a = some (.inr (ci, fs)) ∧ fs[k]? = some (.int x) ∧ P x := hq
theorem vgb_e {P : Nat → Prop} (hq : vgb h a ci k P) : ∃ fs x, h.2.2 a = some (.inr (ci, fs)) ∧ fs[k]? = some (.ref x) ∧ P x := hq
theorem vgr_e {P : Option Nat → Prop} (hq : vgr h a ci k P) : ∃ fs x, h.2.2 a = some (.inr (ci, fs)) ∧ fs[k]? = some (va_rf x) ∧ P x := hq
theorem vpu_e {P : mv_H → Prop} (hq : vpu G h a ci k v P) : ∃ fs h1, h.2.2 a = some (.inr (ci, fs)) ∧ G.2.2.1 ≤ a ∧ k < fs.length ∧ h1 = mv_set h a (.inr (ci, fs.set k v)) ∧ P h1 := by
  obtain ⟨fs, h1, h2, h3, h4⟩ := hq
  exact ⟨fs, _, h1, h2, h3, rfl, h4⟩
theorem vnn_e {P : Nat → Prop} (hq : vnn r P) : ∃ a, r = some a ∧ P a := hq
theorem vob_e (hq : vob h a ci A) : (∃ fs, h.2.2 a = some (.inr (ci, fs))) ∧ A := hq
theorem vai_e {P : Int32 → Prop} (hq : vai G h a t i P) : ∃ n f x, h.2.2 a = some (.inl (mv_t G t, n, .inl f)) ∧ vp_in i n ∧ x = f i.toNatClampNeg ∧ P x := by
  obtain ⟨n, f, h1, h2, h3⟩ := hq
  exact ⟨n, f, _, h1, h2, rfl, h3⟩
theorem vab_e {P : Nat → Prop} (hq : vab G h a t i P) : ∃ n f x, h.2.2 a = some (.inl (mv_t G t, n, .inr (.inr (.inr (.inr f))))) ∧ vp_in i n ∧ f i.toNatClampNeg = some x ∧ P x := hq
theorem vsi_e {P : mv_H → Prop} (hq : vsi G h a t i x P) : ∃ n f h1, h.2.2 a = some (.inl (mv_t G t, n, .inl f)) ∧ G.2.2.1 ≤ a ∧ vp_in i n ∧ h1 = mv_set h a (.inl (mv_t G t, n, .inl (upd f i.toNatClampNeg x))) ∧ P h1 := by
  obtain ⟨n, f, h1, h2, h3, h4⟩ := hq
  exact ⟨n, f, _, h1, h2, h3, rfl, h4⟩
theorem vsa_e {y : Nat} {P : mv_H → Prop} (hq : vsa G h a t ci i y P) : ∃ n f h1, h.2.2 a = some (.inl (mv_t G t, n, .inr (.inr (.inr (.inr f))))) ∧ (∃ vs, h.2.2 y = some (.inr (ci, vs))) ∧ G.2.2.1 ≤ a ∧ vp_in i n ∧ h1 = mv_set h a (.inl (mv_t G t, n, .inr (.inr (.inr (.inr (va_up f i.toNatClampNeg (some y))))))) ∧ P h1 := by
  obtain ⟨n, f, h1, h2, h3, h4, h5⟩ := hq
  exact ⟨n, f, _, h1, h2, h3, h4, rfl, h5⟩
theorem vln_e {P : Int32 → Prop} (hq : vln G h a t P) : ∃ (x : vp_A) (y : Int32), h.2.2 a = some (.inl (mv_t G t, x)) ∧ y = Int32.ofNat x.1 ∧ P y := by
  obtain ⟨x, h1, h2⟩ := hq
  exact ⟨x, _, h1, rfl, h2⟩
theorem vnw_e {P : Nat → mv_H → Prop} (hq : vnw h n e P) : ∃ a h1, a = h.1 ∧ h1 = mv_new h n e ∧ P a h1 := ⟨_, _, rfl, rfl, hq⟩
theorem vif_t (hq : vif c A B) (hc : c) : A := hq.1 hc
theorem vif_f (hq : vif c A B) (hc : ¬ c) : B := hq.2 hc
theorem vnl_n {P : Nat → Prop} (hq : vnl r A P) (hc : r = none) : A := hq.1 hc
theorem vnl_s {P : Nat → Prop} (hq : vnl r A P) {a : Nat} (hc : r = some a) : P a := hq.2 a hc
theorem vst_e {own : String} {tx : String} {P : Nat → Prop} (hq : vst G own k tx P) : ∃ a, mv_lt G own k tx a ∧ P a := hq
end VC0
theorem va_rf_cat (r : Option Nat) : (va_rf r).category = 1 := by cases r <;> rfl
theorem va_rf_ref {q : Nat} {r : Option Nat} : (Value.ref q = va_rf r) = (r = some q) := by
  cases r with
  | none => simp [va_rf]
  | some a => simp [va_rf]; exact ⟨fun h => h.symm, fun h => h.symm⟩
theorem va_rf_null {r : Option Nat} : (Value.null = va_rf r) = (r = none) := by cases r <;> simp [va_rf]
section VC1
variable {l : Launch} {G : mv_G} {M : mv_M} {d pc : Nat} {L : List (Option Value)} {st : List Value} {h : mv_H} {Q : mv_O → mv_H → Prop} {r : Option Nat}
theorem q_aload_nV {k : Fin 4} (hd : decode M.2.1 pc = .ok (.aload_n k, 1)) (hL : L[(k : Nat)]? = some (some (va_rf r))) (kk0 : mv_rq l G M d (pc + 1) L (va_rf r :: st) h Q) : mv_rq l G M d pc L st h Q := by
  cases r with
  | none => exact q_aload_nN hd hL kk0
  | some a => exact q_aload_n hd hL kk0
theorem q_aloadV {i : Nat} (hd : decode M.2.1 pc = .ok (.aload i, 2)) (hL : L[i]? = some (some (va_rf r))) (kk0 : mv_rq l G M d (pc + 2) L (va_rf r :: st) h Q) : mv_rq l G M d pc L st h Q := by
  cases r with
  | none => exact q_aloadN hd hL kk0
  | some a => exact q_aload hd hL kk0
theorem q_astore_nV {k : Fin 4} (hd : decode M.2.1 pc = .ok (.astore_n k, 1)) (hi : (k : Nat) < L.length) (hok : mv_sok L (k : Nat) = true) (kk0 : mv_rq l G M d (pc + 1) (L.set (k : Nat) (some (va_rf r))) st h Q) : mv_rq l G M d pc L (va_rf r :: st) h Q := by
  cases r with
  | none => exact q_astore_nN hd hi hok kk0
  | some a => exact q_astore_n hd hi hok kk0
theorem q_astoreV {i : Nat} (hd : decode M.2.1 pc = .ok (.astore i, 2)) (hi : i < L.length) (hok : mv_sok L i = true) (kk0 : mv_rq l G M d (pc + 2) (L.set i (some (va_rf r))) st h Q) : mv_rq l G M d pc L (va_rf r :: st) h Q := by
  cases r with
  | none => exact q_astoreN hd hi hok kk0
  | some a => exact q_astore hd hi hok kk0
theorem q_ifnullV {off : Int} {tgt : Nat} (hd : decode M.2.1 pc = .ok (.ifnull off, 3)) (ht : (pc : Int) + off = (tgt : Int)) (kn : r = none → mv_rq l G M d tgt L st h Q) (ks : ∀ a, r = some a → mv_rq l G M d (pc + 3) L st h Q) : mv_rq l G M d pc L (va_rf r :: st) h Q := by
  cases r with
  | none => exact q_ifnullN hd ht (kn rfl)
  | some a => exact q_ifnull hd (ks a rfl)
theorem q_ifnonnullV {off : Int} {tgt : Nat} (hd : decode M.2.1 pc = .ok (.ifnonnull off, 3)) (ht : (pc : Int) + off = (tgt : Int)) (kn : r = none → mv_rq l G M d (pc + 3) L st h Q) (ks : ∀ a, r = some a → mv_rq l G M d tgt L st h Q) : mv_rq l G M d pc L (va_rf r :: st) h Q := by
  cases r with
  | none => exact q_ifnonnullN hd (kn rfl)
  | some a => exact q_ifnonnull hd ht (ks a rfl)
theorem va_rf_nar {c : String} : narrow (.object c) (va_rf r) = va_rf r := by cases r <;> rfl
theorem va_rf_fit {c : String} : fits (.object c) (va_rf r) = true := by cases r <;> rfl
/-- a call whose end is known -/
theorem vI_of {M : mv_M} {x : Int32} {h' : mv_H} {X : String × Nat → mv_H → Prop} {P : Int32 → mv_H → Prop} (hs : mv_rq l G M d pc L st h (fun o h1 => o = .inl (some (.int x)) ∧ h' = h1)) (k : P x h') : mv_rq l G M d pc L st h (vI X P) :=
  hs.mono fun _ _ hq => Or.inl ⟨x, hq.1, hq.2 ▸ k⟩
theorem vB_of {M : mv_M} {x : Nat} {h' : mv_H} {X : String × Nat → mv_H → Prop} {P : Nat → mv_H → Prop} (hs : mv_rq l G M d pc L st h (fun o h1 => o = .inl (some (.ref x)) ∧ h' = h1)) (k : P x h') : mv_rq l G M d pc L st h (vB X P) :=
  hs.mono fun _ _ hq => Or.inl ⟨x, hq.1, hq.2 ▸ k⟩
theorem vU_of {M : mv_M} {h' : mv_H} {X : String × Nat → mv_H → Prop} {P : mv_H → Prop} (hs : mv_rq l G M d pc L st h (fun o h1 => o = .inl none ∧ h' = h1)) (k : P h') : mv_rq l G M d pc L st h (vU X P) :=
  hs.mono fun _ _ hq => Or.inl ⟨hq.1, hq.2 ▸ k⟩
end VC1
