section VO
variable {l : Launch} {G : mv_G} {h : mv_H} {a b ci k t n : Nat} {i x : Int32} {v : Value} {e : va_E} {r : Option Nat} {c A B : Prop} {fs fs' : List Value}
theorem vgi_of {P : Int32 → Prop} (hf : h.2.2 a = some (.inr (ci, fs))) (hk : fs[k]? = some (.int x)) (kk : P x) : vgi h a ci k P := ⟨fs, x, hf, hk, kk⟩
theorem vgb_of {P : Nat → Prop} (hf : h.2.2 a = some (.inr (ci, fs))) (hk : fs[k]? = some (.ref b)) (kk : P b) : vgb h a ci k P := ⟨fs, b, hf, hk, kk⟩
theorem vgr_of {P : Option Nat → Prop} (hf : h.2.2 a = some (.inr (ci, fs))) (hk : fs[k]? = some (va_rf r)) (kk : P r) : vgr h a ci k P := ⟨fs, r, hf, hk, kk⟩
theorem vpu_of {P : mv_H → Prop} (hf : h.2.2 a = some (.inr (ci, fs))) (hb : G.2.2.1 ≤ a) (hl : k < fs.length) (hs : fs.set k v = fs') (kk : P (mv_set h a (.inr (ci, fs')))) : vpu G h a ci k v P := ⟨fs, hf, hb, hl, by rw [hs]; exact kk⟩
theorem vob_of (hf : h.2.2 a = some (.inr (ci, fs))) (kk : A) : vob h a ci A := ⟨⟨fs, hf⟩, kk⟩
theorem vai_of {P : Int32 → Prop} {f : Nat → Int32} {j : Nat} (hf : h.2.2 a = some (.inl (mv_t G t, n, .inl f))) (hi : i = nI j) (hj : j < n) (hn : n < 2 ^ 31) (kk : P (f j)) : vai G h a t i P := by
  subst hi
  exact ⟨n, f, hf, vp_in_nI hj hn, by rw [nI_clamp (by omega)]; exact kk⟩
theorem vab_of {P : Nat → Prop} {f : Nat → Option Nat} {j : Nat} (hf : h.2.2 a = some (.inl (mv_t G t, n, .inr (.inr (.inr (.inr f)))))) (hi : i = nI j) (hj : j < n) (hn : n < 2 ^ 31) (hx : f j = some b) (kk : P b) : vab G h a t i P := by
  subst hi
  exact ⟨n, f, b, hf, vp_in_nI hj hn, by rw [nI_clamp (by omega)]; exact hx, kk⟩
theorem vsi_of {P : mv_H → Prop} {f : Nat → Int32} {j : Nat} (hf : h.2.2 a = some (.inl (mv_t G t, n, .inl f))) (hb : G.2.2.1 ≤ a) (hi : i = nI j) (hj : j < n) (hn : n < 2 ^ 31) (kk : P (mv_set h a (.inl (mv_t G t, n, .inl (upd f j x))))) : vsi G h a t i x P := by
  subst hi
  exact ⟨n, f, hf, hb, vp_in_nI hj hn, by rw [nI_clamp (by omega)]; exact kk⟩
theorem vln_of {P : Int32 → Prop} {y : vp_A} (hf : h.2.2 a = some (.inl (mv_t G t, y))) (kk : P (nI y.1)) : vln G h a t P := ⟨y, hf, kk⟩
theorem vif_of (k1 : c → A) (k2 : ¬ c → B) : vif c A B := ⟨k1, k2⟩
theorem vif_y (hc : c) (k1 : A) : vif c A B := ⟨fun _ => k1, fun z => absurd hc z⟩
theorem vif_n (hc : ¬ c) (k1 : B) : vif c A B := ⟨fun z => absurd z hc, fun _ => k1⟩
theorem vnl_y {P : Nat → Prop} (k1 : A) : vnl none A P := ⟨fun _ => k1, fun _ z => (nomatch z)⟩
theorem vnl_i {P : Nat → Prop} (k1 : P a) : vnl (some a) A P := ⟨fun z => (nomatch z), fun b z => by cases z; exact k1⟩
theorem vnn_of {P : Nat → Prop} (k1 : P a) : vnn (some a) P := ⟨a, rfl, k1⟩
theorem vnw_of {P : Nat → mv_H → Prop} (k1 : P h.1 (mv_new h n e)) : vnw h n e P := k1
theorem vst_of {own tx : String} {P : Nat → Prop} (h1 : mv_lt G own k tx a) (k1 : P a) : vst G own k tx P := ⟨a, h1, k1⟩
end VO
/-- how a heap has changed: at most c cells and s slots more, and of the old ones only those of W -/
def hst (G : mv_G) (h h1 : mv_H) (W : Nat → Prop) (c s : Nat) : Prop := mv_wf h1 ∧ G.2.2.1 ≤ h1.1 ∧ h.1 ≤ h1.1 ∧ h1.1 ≤ h.1 + c ∧ h.2.1 ≤ h1.2.1 ∧ h1.2.1 ≤ h.2.1 + s ∧ ∀ a, a < h.1 → ¬ W a → h1.2.2 a = h.2.2 a
theorem hst.rf {G : mv_G} {h : mv_H} {W : Nat → Prop} {c s : Nat} (hw : mv_wf h) (hb : G.2.2.1 ≤ h.1) : hst G h h W c s := ⟨hw, hb, Nat.le_refl _, by omega, Nat.le_refl _, by omega, fun _ _ _ => rfl⟩
theorem hst.tr {G : mv_G} {h h1 h2 : mv_H} {W W1 W2 : Nat → Prop} {c s c1 s1 c2 s2 : Nat} (k1 : hst G h h1 W1 c1 s1) (k2 : hst G h1 h2 W2 c2 s2) (w1 : ∀ a, a < h.1 → W1 a → W a) (w2 : ∀ a, a < h.1 → W2 a → W a) (hc : c1 + c2 ≤ c) (hs : s1 + s2 ≤ s) : hst G h h2 W c s := by
  obtain ⟨a1, a2, a3, a4, a5, a6, a7⟩ := k1
  obtain ⟨b1, b2, b3, b4, b5, b6, b7⟩ := k2
  refine ⟨b1, b2, by omega, by omega, by omega, by omega, fun a ha hw => ?_⟩
  rw [b7 a (by omega) (fun z => hw (w2 a ha z)), a7 a ha (fun z => hw (w1 a ha z))]
theorem hst.set {G : mv_G} {h : mv_H} {a : Nat} {e e0 : va_E} {W : Nat → Prop} {c s : Nat} (hw : mv_wf h) (hb : G.2.2.1 ≤ h.1) (ha : h.2.2 a = some e0) (hW : W a) : hst G h (mv_set h a e) W c s :=
  ⟨mv_wf_set hw ha, hb, Nat.le_refl _, by show h.1 ≤ _; omega, Nat.le_refl _, by show h.2.1 ≤ _; omega, fun b _ hn => mv_set_n (fun z => hn (by rw [z]; exact hW))⟩
theorem hst.new {G : mv_G} {h : mv_H} {n : Nat} {e : va_E} {W : Nat → Prop} {c s : Nat} (hw : mv_wf h) (hb : G.2.2.1 ≤ h.1) (hc : 1 ≤ c) (hs : n ≤ s) : hst G h (mv_new h n e) W c s :=
  ⟨mv_wf_new hw, Nat.le_succ_of_le hb, Nat.le_succ _, by show h.1 + 1 ≤ _; omega, Nat.le_add_right _ _, by show h.2.1 + n ≤ _; omega, fun b hb _ => mv_new_n (by omega)⟩
theorem hst.at {G : mv_G} {h h1 : mv_H} {W : Nat → Prop} {c s : Nat} (k : hst G h h1 W c s) (hw : mv_wf h) {a : Nat} {e : va_E} (ha : h.2.2 a = some e) (hn : ¬ W a) : h1.2.2 a = some e := by
  rw [k.2.2.2.2.2.2 a (mv_wf_lt hw ha) hn]; exact ha
theorem mv_str.tr {G : mv_G} {h h1 : mv_H} {a : Nat} {t : List Nat} (hs : mv_str G h a t) (hk : ∀ q e, h.2.2 q = some e → (mv_tag e = 0 ∨ mv_tag e = 1000) → h1.2.2 q = some e) : mv_str G h1 a t := by
  obtain ⟨q, x, y, f, h1', h2, h3⟩ := hs
  exact ⟨q, x, y, f, hk _ _ h1' (Or.inl rfl), hk _ _ h2 (Or.inr rfl), h3⟩
/-- a StringBuilder of Latin letters -/
def mv_sb (G : mv_G) (h : mv_H) (b v cap : Nat) (t : List Nat) : Prop := ∃ (f : Nat → Int32) (mb : Int32), h.2.2 b = some (.inr (1, [.ref v, .int 0, .int mb, .int (nI t.length)])) ∧ h.2.2 v = some (.inl (mv_t G 0, cap, .inl f)) ∧ (∀ j, j < t.length → f j = nI (lk t j)) ∧ (∀ j, lk t j < 128) ∧ (∀ j, j < cap → ∃ c, c < 128 ∧ f j = nI c) ∧ t.length ≤ cap ∧ cap ≤ 20000 ∧ G.2.2.1 ≤ b ∧ G.2.2.1 ≤ v
