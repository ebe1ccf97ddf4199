/-! calls round StringBuilder, copies of arrays -/
def mv_pc (Y : mv_M) (n : Nat) : Prop := Cond.instanceMethod Y.1 ∈ lw_tbl ∧ Cond.sameMethod Y.1.cls Y.1.cls Y.1.name Y.1.desc ∈ lw_tbl ∧ Cond.privateMethod Y.1 ∈ lw_tbl ∧ mv_cw Y ∈ lw_tbl ∧ goodWord (mv_cw Y) = true ∧ plainName Y.1.cls = true ∧ (Y.1.cls ≠ "java/lang/invoke/MethodHandle" ∧ Y.1.cls ≠ "java/lang/invoke/VarHandle") ∧ (parseMethodDescriptor Y.1.desc).map (fun d => d.parameters.length) = some n
def mv_uc (C0 : String) (Y : mv_M) (n : Nat) : Prop := Cond.instanceMethod Y.1 ∈ lw_tbl ∧ Cond.sameMethod Y.1.cls Y.1.cls Y.1.name Y.1.desc ∈ lw_tbl ∧ Cond.superclass C0 Y.1.cls ∈ lw_tbl ∧ Y.1.name ≠ "<init>" ∧ mv_cw Y ∈ lw_tbl ∧ goodWord (mv_cw Y) = true ∧ plainName Y.1.cls = true ∧ (parseMethodDescriptor Y.1.desc).map (fun d => d.parameters.length) = some n
def vcp (G : mv_G) (h : mv_H) (a : Nat) (sp : Int32) (b : Nat) (dp n : Int32) (P : mv_H → Prop) : Prop := ∃ (s' d' n' n0 n1 : Nat) (f g : Nat → Int32), sp = nI s' ∧ dp = nI d' ∧ n = nI n' ∧ h.2.2 a = some (.inl (mv_t G 0, n0, .inl f)) ∧ h.2.2 b = some (.inl (mv_t G 0, n1, .inl g)) ∧ G.2.2.1 ≤ b ∧ s' + n' ≤ n0 ∧ d' + n' ≤ n1 ∧ s' < 2 ^ 31 ∧ d' < 2 ^ 31 ∧ n' < 2 ^ 31 ∧
  (∀ i, i < n' → fits .byte (.int (f (s' + i))) = true) ∧ P (mv_set h b (.inl (mv_t G 0, n1, .inl (va_cpy f g s' d' n'))))
def vcl (G : mv_G) (h : mv_H) (a : Nat) (P : Nat → mv_H → Prop) : Prop := ∃ n f, G.2.2.1 ≤ a ∧ h.2.2 a = some (.inl (mv_t G 0, n, .inl f)) ∧ (∀ i, i < n → fits .byte (.int (f i)) = true) ∧ P h.1 (mv_new h n (.inl (mv_t G 0, n, .inl f)))
def vcb (G : mv_G) (h : mv_H) (a : Nat) (P : Prop) : Prop := G.2.2.1 ≤ a ∧ (∃ x, h.2.2 a = some (.inl (mv_t G 0, x))) ∧ P
def mv_sta (G : mv_G) (nm : String) (q : Nat) : Prop := ∀ U : State, G.2.2.2.2 U → va_Z "java/lang/Integer" nm "[B" (.ref q) (fun a => G.2.2.1 ≤ a) U G.2.2.2.1
def vgz (G : mv_G) (nm : String) (P : Nat → Prop) : Prop := ∃ q, mv_sta G nm q ∧ P q
section VJ0
variable {l : Launch} {G : mv_G} {M : mv_M} {d pc : Nat} {L : List (Option Value)} {st st0 : List Value} {h : mv_H} {Q : mv_O → mv_H → Prop}
theorem vcp_e {a b : Nat} {sp dp n : Int32} {P : mv_H → Prop} (hq : vcp G h a sp b dp n P) : ∃ (s' d' n' n0 n1 : Nat) (f g : Nat → Int32) (h1 : mv_H), sp = nI s' ∧ dp = nI d' ∧ n = nI n' ∧ h.2.2 a = some (.inl (mv_t G 0, n0, .inl f)) ∧ h.2.2 b = some (.inl (mv_t G 0, n1, .inl g)) ∧ G.2.2.1 ≤ b ∧ s' + n' ≤ n0 ∧ d' + n' ≤ n1 ∧ s' < 2 ^ 31 ∧ d' < 2 ^ 31 ∧ n' < 2 ^ 31 ∧
    (∀ i, i < n' → fits .byte (.int (f (s' + i))) = true) ∧ h1 = mv_set h b (.inl (mv_t G 0, n1, .inl (va_cpy f g s' d' n'))) ∧ P h1 := by
  obtain ⟨s', d', n', n0, n1, f, g, k1, k2, k3, k4, k5, k6, k7, k8, k9, k10, k11, k12, k13⟩ := hq
  exact ⟨s', d', n', n0, n1, f, g, _, k1, k2, k3, k4, k5, k6, k7, k8, k9, k10, k11, k12, rfl, k13⟩
theorem vcl_e {a : Nat} {P : Nat → mv_H → Prop} (hq : vcl G h a P) : ∃ n f a1 h1, G.2.2.1 ≤ a ∧ h.2.2 a = some (.inl (mv_t G 0, n, .inl f)) ∧ (∀ i, i < n → fits .byte (.int (f i)) = true) ∧ a1 = h.1 ∧ h1 = mv_new h n (.inl (mv_t G 0, n, .inl f)) ∧ P a1 h1 := by
  obtain ⟨n, f, h0, h1, h2, h3⟩ := hq
  exact ⟨n, f, _, _, h0, h1, h2, rfl, rfl, h3⟩
theorem vgz_e {nm : String} {P : Nat → Prop} (hq : vgz G nm P) : ∃ q, mv_sta G nm q ∧ P q := hq
theorem vcb_e {a : Nat} {A : Prop} (hq : vcb G h a A) : G.2.2.1 ≤ a ∧ (∃ x, h.2.2 a = some (.inl (mv_t G 0, x))) ∧ A := hq
theorem r_copyb {idx a0 a n0 n1 : Nat} {f g : Nat → Int32} {sp dp n : Nat} {sp' dp' n' : Int32} (e1 : sp' = nI sp) (e2 : dp' = nI dp) (e3 : n' = nI n) (hG : mv_ok G) (hd : decode M.2.1 pc = .ok (.invokestatic idx, 3)) (hlk : Cond.methodLink M.1.cls idx arraycopyName ∈ lw_tbl)
    (f0 : h.2.2 a0 = some (.inl (mv_t G 0, n0, .inl f))) (f1 : h.2.2 a = some (.inl (mv_t G 0, n1, .inl g))) (ha : G.2.2.1 ≤ a) (h4 : sp + n ≤ n0) (h5 : dp + n ≤ n1) (hs0 : sp < 2 ^ 31) (hd0 : dp < 2 ^ 31) (hn0 : n < 2 ^ 31)
    (hfit : ∀ i, i < n → fits .byte (.int (f (sp + i))) = true) (hLn : L.length = M.2.2.1) (hmL : (st.map fun v => v.category).sum + (nativeFrameWords "java/lang/System" "arraycopy" 5 + 11) ≤ 64)
    (k0 : mv_rq l G M (d + 1) (pc + 3) L st (mv_set h a (.inl (mv_t G 0, n1, .inl (va_cpy f g sp dp n)))) Q) : mv_rq l G M (d + 1) pc L (.int n' :: .int dp' :: .ref a :: .int sp' :: .ref a0 :: st) h Q := by
  subst e1 e2 e3
  exact q_copyb (t0 := 0) hd hlk ac_n ac_s ac_i (mv_tB hG) f0 f1 ha h4 h5 hs0 hd0 hn0 hfit hLn hmL k0
theorem q_cP {Y : mv_M} {As : List Value} {b ci idx N : Nat} {fs : List Value} {C0 : String} {T0 : u_T} {Qy : mv_O → mv_H → Prop} (hvc : mv_pc Y As.length) (hd : decode M.2.1 pc = .ok (.invokevirtual idx, 3)) (hlk : Cond.methodLink M.1.cls idx Y.1 ∈ lw_tbl) (hst : st0 = As.reverse ++ .ref b :: st)
    (hg : h.2.2 b = some (.inr (ci, fs))) (hc : vwCl[ci]? = some (C0, T0, N)) (hnl : (mv_ent (.ref b :: As)).length ≤ Y.2.2.1) (hLn : L.length = M.2.2.1) (hmL : (st.map fun v => v.category).sum + (Y.2.2.1 + 11) ≤ 64)
    (hrq : mv_rq l G Y d 0 (mv_in (.ref b :: As) Y.2.2.1) [] h Qy) (kv : ∀ v h1, Qy (.inl v) h1 → mv_rq l G M (d + 1) (pc + 3) L (v.toList ++ st) h1 Q) (kx : ∀ E h1, Qy (.inr E) h1 → mv_xq l G M (d + 1) pc L E h1 Q) : mv_rq l G M (d + 1) pc L st0 h Q :=
  q_callP hd hst hg hc hlk hvc.1 hvc.2.1 hvc.2.2.1 hvc.2.2.2.1 hvc.2.2.2.2.1 hvc.2.2.2.2.2.1 hvc.2.2.2.2.2.2.1 hvc.2.2.2.2.2.2.2 hnl hLn hmL hrq kv kx
theorem q_cU {Y : mv_M} {As : List Value} {b ci idx N : Nat} {fs : List Value} {C0 : String} {T0 : u_T} {Qy : mv_O → mv_H → Prop} (hvc : mv_uc M.1.cls Y As.length) (hd : decode M.2.1 pc = .ok (.invokespecial idx, 3)) (hlk : Cond.methodLink M.1.cls idx Y.1 ∈ lw_tbl) (hst : st0 = As.reverse ++ .ref b :: st)
    (hg : h.2.2 b = some (.inr (ci, fs))) (hc : vwCl[ci]? = some (C0, T0, N)) (hnl : (mv_ent (.ref b :: As)).length ≤ Y.2.2.1) (hLn : L.length = M.2.2.1) (hmL : (st.map fun v => v.category).sum + (Y.2.2.1 + 11) ≤ 64)
    (hrq : mv_rq l G Y d 0 (mv_in (.ref b :: As) Y.2.2.1) [] h Qy) (kv : ∀ v h1, Qy (.inl v) h1 → mv_rq l G M (d + 1) (pc + 3) L (v.toList ++ st) h1 Q) (kx : ∀ E h1, Qy (.inr E) h1 → mv_xq l G M (d + 1) pc L E h1 Q) : mv_rq l G M (d + 1) pc L st0 h Q :=
  q_callSU hd hst hg hc hlk hvc.1 hvc.2.1 hvc.2.2.1 hvc.2.2.2.1 hvc.2.2.2.2.1 hvc.2.2.2.2.2.1 hvc.2.2.2.2.2.2.1 hvc.2.2.2.2.2.2.2 hnl hLn hmL hrq kv kx
end VJ0
theorem uc_J5_length_8abf5 : mv_uc RJ4 mJ5_length_8abf5 0 := ⟨mv_at 289 (by decide +kernel), mv_at 1936 (by decide +kernel), mv_at 71 (by decide +kernel), by decide +kernel, mv_at 290 (by decide +kernel), rfl, pn_RJ5, by decide +kernel⟩
theorem pc_J5_ensureCapacityInternal_d00df : mv_pc mJ5_ensureCapacityInternal_d00df 1 := ⟨mv_at 300 (by decide +kernel), mv_at 1938 (by decide +kernel), mv_at 299 (by decide +kernel), mv_at 301 (by decide +kernel), rfl, pn_RJ5, mh_RJ5, by decide +kernel⟩
theorem pc_J5_newCapacity_0f7a4 : mv_pc mJ5_newCapacity_0f7a4 1 := ⟨mv_at 304 (by decide +kernel), mv_at 1939 (by decide +kernel), mv_at 303 (by decide +kernel), mv_at 305 (by decide +kernel), rfl, pn_RJ5, mh_RJ5, by decide +kernel⟩
theorem pc_J5_inflate_da8c8 : mv_pc mJ5_inflate_da8c8 0 := ⟨mv_at 343 (by decide +kernel), mv_at 1940 (by decide +kernel), mv_at 342 (by decide +kernel), mv_at 344 (by decide +kernel), rfl, pn_RJ5, mh_RJ5, by decide +kernel⟩
theorem uc_J5_setLength_d00df : mv_uc RJ4 mJ5_setLength_d00df 1 := ⟨mv_at 444 (by decide +kernel), mv_at 1941 (by decide +kernel), mv_at 71 (by decide +kernel), by decide +kernel, mv_at 445 (by decide +kernel), rfl, pn_RJ5, by decide +kernel⟩
theorem uc_J5_charAt_5068e : mv_uc RJ4 mJ5_charAt_5068e 1 := ⟨mv_at 670 (by decide +kernel), mv_at 1949 (by decide +kernel), mv_at 71 (by decide +kernel), by decide +kernel, mv_at 671 (by decide +kernel), rfl, pn_RJ5, by decide +kernel⟩
theorem uc_J5_append_cf1ce : mv_uc RJ4 mJ5_append_cf1ce 1 := ⟨mv_at 504 (by decide +kernel), mv_at 1943 (by decide +kernel), mv_at 71 (by decide +kernel), by decide +kernel, mv_at 505 (by decide +kernel), rfl, pn_RJ5, by decide +kernel⟩
theorem pc_J5_appendNull_278bc : mv_pc mJ5_appendNull_278bc 0 := ⟨mv_at 508 (by decide +kernel), mv_at 1944 (by decide +kernel), mv_at 507 (by decide +kernel), mv_at 509 (by decide +kernel), rfl, pn_RJ5, mh_RJ5, by decide +kernel⟩
theorem uc_J5_append_3fe6f : mv_uc RJ4 mJ5_append_3fe6f 1 := ⟨mv_at 296 (by decide +kernel), mv_at 1937 (by decide +kernel), mv_at 71 (by decide +kernel), by decide +kernel, mv_at 297 (by decide +kernel), rfl, pn_RJ5, by decide +kernel⟩
theorem uc_J5_append_c97b9 : mv_uc RJ4 mJ5_append_c97b9 1 := ⟨mv_at 550 (by decide +kernel), mv_at 1947 (by decide +kernel), mv_at 71 (by decide +kernel), by decide +kernel, mv_at 551 (by decide +kernel), rfl, pn_RJ5, by decide +kernel⟩
theorem vc_J5_getValue_6d5f1 : mv_vc RJ4 mJ5_getValue_6d5f1 0 := ⟨mv_at 586 (by decide +kernel), mv_at 588 (by decide +kernel), mv_at 589 (by decide +kernel), rfl, pn_RJ5, mh_RJ5, by decide +kernel⟩
theorem vc_J5_isLatin1_aae02 : mv_vc RJ4 mJ5_isLatin1_aae02 0 := ⟨mv_at 334 (by decide +kernel), mv_at 336 (by decide +kernel), mv_at 337 (by decide +kernel), rfl, pn_RJ5, mh_RJ5, by decide +kernel⟩
theorem pc_J5_inflateIfNeededFor_a7421 : mv_pc mJ5_inflateIfNeededFor_a7421 1 := ⟨mv_at 536 (by decide +kernel), mv_at 1946 (by decide +kernel), mv_at 535 (by decide +kernel), mv_at 537 (by decide +kernel), rfl, pn_RJ5, mh_RJ5, by decide +kernel⟩
theorem pc_J5_putStringAt_47b60 : mv_pc mJ5_putStringAt_47b60 2 := ⟨mv_at 532 (by decide +kernel), mv_at 1945 (by decide +kernel), mv_at 531 (by decide +kernel), mv_at 533 (by decide +kernel), rfl, pn_RJ5, mh_RJ5, by decide +kernel⟩
theorem q_cLen {l : Launch} {G : mv_G} {M : mv_M} {d pc : Nat} {L : List (Option Value)} {st st0 : List Value} {h : mv_H} {Q : mv_O → mv_H → Prop} {As : List Value} {b ci idx : Nat} {fs : List Value} {Qy : mv_O → mv_H → Prop} (hd : decode M.2.1 pc = .ok (.invokevirtual idx, 3)) (hlk : Cond.methodLink M.1.cls idx yJ5_length_8abf5 ∈ lw_tbl) (hst : st0 = ([] : List Value).reverse ++ .ref b :: st)
    (hg : h.2.2 b = some (.inr (ci, fs))) (hc : vwCl[ci]? = some (RJ4, TJ4, 4)) (hnl : (mv_ent [.ref b]).length ≤ mJ4_length_8abf5.2.2.1) (hLn : L.length = M.2.2.1) (hmL : (st.map fun v => v.category).sum + (mJ4_length_8abf5.2.2.1 + 11) ≤ 64)
    (hrq : mv_rq l G mJ4_length_8abf5 d 0 (mv_in [.ref b] mJ4_length_8abf5.2.2.1) [] h Qy) (kv : ∀ v h1, Qy (.inl v) h1 → mv_rq l G M (d + 1) (pc + 3) L (v.toList ++ st) h1 Q) (kx : ∀ E h1, Qy (.inr E) h1 → mv_xq l G M (d + 1) pc L E h1 Q) : mv_rq l G M (d + 1) pc L st0 h Q :=
  q_callU (Y := mJ4_length_8abf5) (x := yJ5_length_8abf5) (owner := RJ5) (As := []) hd hst hg hc hlk vc_J4_length_8abf5.1 (mv_at 1948 (by decide +kernel)) uc_J5_length_8abf5.2.1
    (fun args s ok => va_Decl.of (ok _ uc_J5_length_8abf5.1 (mv_mov_good rfl)) (ok _ uc_J5_length_8abf5.2.2.2.2.1 (mv_mov_good rfl))) mh_RJ5 vc_J4_length_8abf5.2.2.1 rfl pn_RJ4 (by decide +kernel) hnl hLn hmL hrq kv kx
theorem ml_RJ7_310 : Cond.methodLink RJ7 310 ⟨"[B", "clone", "()Ljava/lang/Object;"⟩ ∈ lw_tbl := mv_at 320 (by decide +kernel)
theorem dJ4_init_da8c8_0 : decode cJ4_init_da8c8 0 = .ok (.aload_n 0, 1) := by decide +kernel
theorem dJ4_init_da8c8_1 : decode cJ4_init_da8c8 1 = .ok (.bipush 16, 2) := by decide +kernel
theorem dJ4_init_da8c8_3 : decode cJ4_init_da8c8 3 = .ok (.invokespecial 1, 3) := by decide +kernel
theorem dJ4_init_da8c8_6 : decode cJ4_init_da8c8 6 = .ok (.return_, 1) := by decide +kernel
theorem dJ4_append_15ec4_0 : decode cJ4_append_15ec4 0 = .ok (.aload_n 0, 1) := by decide +kernel
theorem dJ4_append_15ec4_1 : decode cJ4_append_15ec4 1 = .ok (.aload_n 1, 1) := by decide +kernel
theorem dJ4_append_15ec4_2 : decode cJ4_append_15ec4 2 = .ok (.invokespecial 29, 3) := by decide +kernel
theorem dJ4_append_15ec4_5 : decode cJ4_append_15ec4 5 = .ok (.pop, 1) := by decide +kernel
theorem dJ4_append_15ec4_6 : decode cJ4_append_15ec4 6 = .ok (.aload_n 0, 1) := by decide +kernel
theorem dJ4_append_15ec4_7 : decode cJ4_append_15ec4 7 = .ok (.areturn, 1) := by decide +kernel
theorem dJ4_append_cf468_0 : decode cJ4_append_cf468 0 = .ok (.aload_n 0, 1) := by decide +kernel
theorem dJ4_append_cf468_1 : decode cJ4_append_cf468 1 = .ok (.iload_n 1, 1) := by decide +kernel
theorem dJ4_append_cf468_2 : decode cJ4_append_cf468 2 = .ok (.invokespecial 50, 3) := by decide +kernel
theorem dJ4_append_cf468_5 : decode cJ4_append_cf468 5 = .ok (.pop, 1) := by decide +kernel
theorem dJ4_append_cf468_6 : decode cJ4_append_cf468 6 = .ok (.aload_n 0, 1) := by decide +kernel
theorem dJ4_append_cf468_7 : decode cJ4_append_cf468 7 = .ok (.areturn, 1) := by decide +kernel
theorem dJ4_append_bf812_0 : decode cJ4_append_bf812 0 = .ok (.aload_n 0, 1) := by decide +kernel
theorem dJ4_append_bf812_1 : decode cJ4_append_bf812 1 = .ok (.iload_n 1, 1) := by decide +kernel
theorem dJ4_append_bf812_2 : decode cJ4_append_bf812 2 = .ok (.invokespecial 53, 3) := by decide +kernel
theorem dJ4_append_bf812_5 : decode cJ4_append_bf812 5 = .ok (.pop, 1) := by decide +kernel
theorem dJ4_append_bf812_6 : decode cJ4_append_bf812 6 = .ok (.aload_n 0, 1) := by decide +kernel
theorem dJ4_append_bf812_7 : decode cJ4_append_bf812 7 = .ok (.areturn, 1) := by decide +kernel
theorem dJ4_toString_0e30d_0 : decode cJ4_toString_0e30d 0 = .ok (.new 18, 3) := by decide +kernel
theorem dJ4_toString_0e30d_3 : decode cJ4_toString_0e30d 3 = .ok (.dup, 1) := by decide +kernel
theorem dJ4_toString_0e30d_4 : decode cJ4_toString_0e30d 4 = .ok (.aload_n 0, 1) := by decide +kernel
theorem dJ4_toString_0e30d_5 : decode cJ4_toString_0e30d 5 = .ok (.invokespecial 137, 3) := by decide +kernel
theorem dJ4_toString_0e30d_8 : decode cJ4_toString_0e30d 8 = .ok (.areturn, 1) := by decide +kernel
theorem dJ4_charAt_5068e_0 : decode cJ4_charAt_5068e 0 = .ok (.aload_n 0, 1) := by decide +kernel
theorem dJ4_charAt_5068e_1 : decode cJ4_charAt_5068e 1 = .ok (.iload_n 1, 1) := by decide +kernel
theorem dJ4_charAt_5068e_2 : decode cJ4_charAt_5068e 2 = .ok (.invokespecial 329, 3) := by decide +kernel
theorem dJ4_charAt_5068e_5 : decode cJ4_charAt_5068e 5 = .ok (.ireturn, 1) := by decide +kernel
theorem dJ4_setLength_d00df_0 : decode cJ4_setLength_d00df 0 = .ok (.aload_n 0, 1) := by decide +kernel
theorem dJ4_setLength_d00df_1 : decode cJ4_setLength_d00df 1 = .ok (.iload_n 1, 1) := by decide +kernel
theorem dJ4_setLength_d00df_2 : decode cJ4_setLength_d00df 2 = .ok (.invokespecial 333, 3) := by decide +kernel
theorem dJ4_setLength_d00df_5 : decode cJ4_setLength_d00df 5 = .ok (.return_, 1) := by decide +kernel
theorem dJ4_length_8abf5_0 : decode cJ4_length_8abf5 0 = .ok (.aload_n 0, 1) := by decide +kernel
theorem dJ4_length_8abf5_1 : decode cJ4_length_8abf5 1 = .ok (.invokespecial 343, 3) := by decide +kernel
theorem dJ4_length_8abf5_4 : decode cJ4_length_8abf5 4 = .ok (.ireturn, 1) := by decide +kernel
theorem dJ5_init_d00df_0 : decode cJ5_init_d00df 0 = .ok (.aload_n 0, 1) := by decide +kernel
theorem dJ5_init_d00df_1 : decode cJ5_init_d00df 1 = .ok (.invokespecial 3, 3) := by decide +kernel
theorem dJ5_init_d00df_4 : decode cJ5_init_d00df 4 = .ok (.getstatic 18, 3) := by decide +kernel
theorem dJ5_init_d00df_7 : decode cJ5_init_d00df 7 = .ok (.ifCond .eq 18, 3) := by decide +kernel
theorem dJ5_init_d00df_10 : decode cJ5_init_d00df 10 = .ok (.aload_n 0, 1) := by decide +kernel
theorem dJ5_init_d00df_11 : decode cJ5_init_d00df 11 = .ok (.iload_n 1, 1) := by decide +kernel
theorem dJ5_init_d00df_12 : decode cJ5_init_d00df 12 = .ok (.newarray .byte, 2) := by decide +kernel
theorem dJ5_init_d00df_14 : decode cJ5_init_d00df 14 = .ok (.putfield 15, 3) := by decide +kernel
theorem dJ5_init_d00df_17 : decode cJ5_init_d00df 17 = .ok (.aload_n 0, 1) := by decide +kernel
theorem dJ5_init_d00df_18 : decode cJ5_init_d00df 18 = .ok (.iconst 0, 1) := by decide +kernel
theorem dJ5_init_d00df_19 : decode cJ5_init_d00df 19 = .ok (.putfield 22, 3) := by decide +kernel
theorem dJ5_init_d00df_22 : decode cJ5_init_d00df 22 = .ok (.goto 16, 3) := by decide +kernel
theorem dJ5_init_d00df_25 : decode cJ5_init_d00df 25 = .ok (.aload_n 0, 1) := by decide +kernel
theorem dJ5_init_d00df_26 : decode cJ5_init_d00df 26 = .ok (.iload_n 1, 1) := by decide +kernel
theorem dJ5_init_d00df_27 : decode cJ5_init_d00df 27 = .ok (.invokestatic 26, 3) := by decide +kernel
theorem dJ5_init_d00df_30 : decode cJ5_init_d00df 30 = .ok (.putfield 15, 3) := by decide +kernel
theorem dJ5_init_d00df_33 : decode cJ5_init_d00df 33 = .ok (.aload_n 0, 1) := by decide +kernel
theorem dJ5_init_d00df_34 : decode cJ5_init_d00df 34 = .ok (.iconst 1, 1) := by decide +kernel
theorem dJ5_init_d00df_35 : decode cJ5_init_d00df 35 = .ok (.putfield 22, 3) := by decide +kernel
theorem dJ5_init_d00df_38 : decode cJ5_init_d00df 38 = .ok (.return_, 1) := by decide +kernel
theorem dJ5_length_8abf5_0 : decode cJ5_length_8abf5 0 = .ok (.aload_n 0, 1) := by decide +kernel
theorem dJ5_length_8abf5_1 : decode cJ5_length_8abf5 1 = .ok (.getfield 79, 3) := by decide +kernel
theorem dJ5_length_8abf5_4 : decode cJ5_length_8abf5 4 = .ok (.ireturn, 1) := by decide +kernel
theorem dJ5_ensureCapacityInternal_d00df_0 : decode cJ5_ensureCapacityInternal_d00df 0 = .ok (.aload_n 0, 1) := by decide +kernel
theorem dJ5_ensureCapacityInternal_d00df_1 : decode cJ5_ensureCapacityInternal_d00df 1 = .ok (.getfield 15, 3) := by decide +kernel
theorem dJ5_ensureCapacityInternal_d00df_4 : decode cJ5_ensureCapacityInternal_d00df 4 = .ok (.arraylength, 1) := by decide +kernel
theorem dJ5_ensureCapacityInternal_d00df_5 : decode cJ5_ensureCapacityInternal_d00df 5 = .ok (.aload_n 0, 1) := by decide +kernel
theorem dJ5_ensureCapacityInternal_d00df_6 : decode cJ5_ensureCapacityInternal_d00df 6 = .ok (.getfield 22, 3) := by decide +kernel
theorem dJ5_ensureCapacityInternal_d00df_9 : decode cJ5_ensureCapacityInternal_d00df 9 = .ok (.ishr, 1) := by decide +kernel
theorem dJ5_ensureCapacityInternal_d00df_10 : decode cJ5_ensureCapacityInternal_d00df 10 = .ok (.istore_n 2, 1) := by decide +kernel
theorem dJ5_ensureCapacityInternal_d00df_11 : decode cJ5_ensureCapacityInternal_d00df 11 = .ok (.iload_n 1, 1) := by decide +kernel
theorem dJ5_ensureCapacityInternal_d00df_12 : decode cJ5_ensureCapacityInternal_d00df 12 = .ok (.iload_n 2, 1) := by decide +kernel
theorem dJ5_ensureCapacityInternal_d00df_13 : decode cJ5_ensureCapacityInternal_d00df 13 = .ok (.isub, 1) := by decide +kernel
theorem dJ5_ensureCapacityInternal_d00df_14 : decode cJ5_ensureCapacityInternal_d00df 14 = .ok (.ifCond .le 24, 3) := by decide +kernel
theorem dJ5_ensureCapacityInternal_d00df_17 : decode cJ5_ensureCapacityInternal_d00df 17 = .ok (.aload_n 0, 1) := by decide +kernel
theorem dJ5_ensureCapacityInternal_d00df_18 : decode cJ5_ensureCapacityInternal_d00df 18 = .ok (.aload_n 0, 1) := by decide +kernel
theorem dJ5_ensureCapacityInternal_d00df_19 : decode cJ5_ensureCapacityInternal_d00df 19 = .ok (.getfield 15, 3) := by decide +kernel
theorem dJ5_ensureCapacityInternal_d00df_22 : decode cJ5_ensureCapacityInternal_d00df 22 = .ok (.aload_n 0, 1) := by decide +kernel
theorem dJ5_ensureCapacityInternal_d00df_23 : decode cJ5_ensureCapacityInternal_d00df 23 = .ok (.iload_n 1, 1) := by decide +kernel
theorem dJ5_ensureCapacityInternal_d00df_24 : decode cJ5_ensureCapacityInternal_d00df 24 = .ok (.invokevirtual 104, 3) := by decide +kernel
theorem dJ5_ensureCapacityInternal_d00df_27 : decode cJ5_ensureCapacityInternal_d00df 27 = .ok (.aload_n 0, 1) := by decide +kernel
theorem dJ5_ensureCapacityInternal_d00df_28 : decode cJ5_ensureCapacityInternal_d00df 28 = .ok (.getfield 22, 3) := by decide +kernel
theorem dJ5_ensureCapacityInternal_d00df_31 : decode cJ5_ensureCapacityInternal_d00df 31 = .ok (.ishl, 1) := by decide +kernel
theorem dJ5_ensureCapacityInternal_d00df_32 : decode cJ5_ensureCapacityInternal_d00df 32 = .ok (.invokestatic 108, 3) := by decide +kernel
theorem dJ5_ensureCapacityInternal_d00df_35 : decode cJ5_ensureCapacityInternal_d00df 35 = .ok (.putfield 15, 3) := by decide +kernel
theorem dJ5_ensureCapacityInternal_d00df_38 : decode cJ5_ensureCapacityInternal_d00df 38 = .ok (.return_, 1) := by decide +kernel
theorem dJ5_newCapacity_0f7a4_0 : decode cJ5_newCapacity_0f7a4 0 = .ok (.aload_n 0, 1) := by decide +kernel
theorem dJ5_newCapacity_0f7a4_1 : decode cJ5_newCapacity_0f7a4 1 = .ok (.getfield 15, 3) := by decide +kernel
theorem dJ5_newCapacity_0f7a4_4 : decode cJ5_newCapacity_0f7a4 4 = .ok (.arraylength, 1) := by decide +kernel
theorem dJ5_newCapacity_0f7a4_5 : decode cJ5_newCapacity_0f7a4 5 = .ok (.istore_n 2, 1) := by decide +kernel
theorem dJ5_newCapacity_0f7a4_6 : decode cJ5_newCapacity_0f7a4 6 = .ok (.iload_n 1, 1) := by decide +kernel
theorem dJ5_newCapacity_0f7a4_7 : decode cJ5_newCapacity_0f7a4 7 = .ok (.aload_n 0, 1) := by decide +kernel
theorem dJ5_newCapacity_0f7a4_8 : decode cJ5_newCapacity_0f7a4 8 = .ok (.getfield 22, 3) := by decide +kernel
theorem dJ5_newCapacity_0f7a4_11 : decode cJ5_newCapacity_0f7a4 11 = .ok (.ishl, 1) := by decide +kernel
theorem dJ5_newCapacity_0f7a4_12 : decode cJ5_newCapacity_0f7a4 12 = .ok (.istore_n 3, 1) := by decide +kernel
theorem dJ5_newCapacity_0f7a4_13 : decode cJ5_newCapacity_0f7a4 13 = .ok (.iload_n 3, 1) := by decide +kernel
theorem dJ5_newCapacity_0f7a4_14 : decode cJ5_newCapacity_0f7a4 14 = .ok (.iload_n 2, 1) := by decide +kernel
theorem dJ5_newCapacity_0f7a4_15 : decode cJ5_newCapacity_0f7a4 15 = .ok (.isub, 1) := by decide +kernel
theorem dJ5_newCapacity_0f7a4_16 : decode cJ5_newCapacity_0f7a4 16 = .ok (.istore 4, 2) := by decide +kernel
theorem dJ5_newCapacity_0f7a4_18 : decode cJ5_newCapacity_0f7a4 18 = .ok (.iload_n 2, 1) := by decide +kernel
theorem dJ5_newCapacity_0f7a4_19 : decode cJ5_newCapacity_0f7a4 19 = .ok (.iload 4, 2) := by decide +kernel
theorem dJ5_newCapacity_0f7a4_21 : decode cJ5_newCapacity_0f7a4 21 = .ok (.iload_n 2, 1) := by decide +kernel
theorem dJ5_newCapacity_0f7a4_22 : decode cJ5_newCapacity_0f7a4 22 = .ok (.iconst 2, 1) := by decide +kernel
theorem dJ5_newCapacity_0f7a4_23 : decode cJ5_newCapacity_0f7a4 23 = .ok (.aload_n 0, 1) := by decide +kernel
theorem dJ5_newCapacity_0f7a4_24 : decode cJ5_newCapacity_0f7a4 24 = .ok (.getfield 22, 3) := by decide +kernel
theorem dJ5_newCapacity_0f7a4_27 : decode cJ5_newCapacity_0f7a4 27 = .ok (.ishl, 1) := by decide +kernel
theorem dJ5_newCapacity_0f7a4_28 : decode cJ5_newCapacity_0f7a4 28 = .ok (.iadd, 1) := by decide +kernel
theorem dJ5_newCapacity_0f7a4_29 : decode cJ5_newCapacity_0f7a4 29 = .ok (.invokestatic 114, 3) := by decide +kernel
theorem dJ5_newCapacity_0f7a4_32 : decode cJ5_newCapacity_0f7a4 32 = .ok (.istore 5, 2) := by decide +kernel
theorem dJ5_newCapacity_0f7a4_34 : decode cJ5_newCapacity_0f7a4 34 = .ok (.iload 5, 2) := by decide +kernel
theorem dJ5_newCapacity_0f7a4_36 : decode cJ5_newCapacity_0f7a4 36 = .ok (.ldc 39, 2) := by decide +kernel
theorem dJ5_newCapacity_0f7a4_38 : decode cJ5_newCapacity_0f7a4 38 = .ok (.if_icmp .ne 13, 3) := by decide +kernel
theorem dJ5_newCapacity_0f7a4_41 : decode cJ5_newCapacity_0f7a4 41 = .ok (.new 120, 3) := by decide +kernel
theorem dJ5_newCapacity_0f7a4_44 : decode cJ5_newCapacity_0f7a4 44 = .ok (.dup, 1) := by decide +kernel
theorem dJ5_newCapacity_0f7a4_45 : decode cJ5_newCapacity_0f7a4 45 = .ok (.ldc 122, 2) := by decide +kernel
theorem dJ5_newCapacity_0f7a4_47 : decode cJ5_newCapacity_0f7a4 47 = .ok (.invokespecial 124, 3) := by decide +kernel
theorem dJ5_newCapacity_0f7a4_50 : decode cJ5_newCapacity_0f7a4 50 = .ok (.athrow, 1) := by decide +kernel
theorem dJ5_newCapacity_0f7a4_51 : decode cJ5_newCapacity_0f7a4 51 = .ok (.iload 5, 2) := by decide +kernel
theorem dJ5_newCapacity_0f7a4_53 : decode cJ5_newCapacity_0f7a4 53 = .ok (.aload_n 0, 1) := by decide +kernel
theorem dJ5_newCapacity_0f7a4_54 : decode cJ5_newCapacity_0f7a4 54 = .ok (.getfield 22, 3) := by decide +kernel
theorem dJ5_newCapacity_0f7a4_57 : decode cJ5_newCapacity_0f7a4 57 = .ok (.ishr, 1) := by decide +kernel
theorem dJ5_newCapacity_0f7a4_58 : decode cJ5_newCapacity_0f7a4 58 = .ok (.ireturn, 1) := by decide +kernel
theorem dJ5_setLength_d00df_0 : decode cJ5_setLength_d00df 0 = .ok (.iload_n 1, 1) := by decide +kernel
theorem dJ5_setLength_d00df_1 : decode cJ5_setLength_d00df 1 = .ok (.ifCond .ge 12, 3) := by decide +kernel
theorem dJ5_setLength_d00df_4 : decode cJ5_setLength_d00df 4 = .ok (.new 129, 3) := by decide +kernel
theorem dJ5_setLength_d00df_7 : decode cJ5_setLength_d00df 7 = .ok (.dup, 1) := by decide +kernel
theorem dJ5_setLength_d00df_8 : decode cJ5_setLength_d00df 8 = .ok (.iload_n 1, 1) := by decide +kernel
theorem dJ5_setLength_d00df_9 : decode cJ5_setLength_d00df 9 = .ok (.invokespecial 131, 3) := by decide +kernel
theorem dJ5_setLength_d00df_12 : decode cJ5_setLength_d00df 12 = .ok (.athrow, 1) := by decide +kernel
theorem dJ5_setLength_d00df_13 : decode cJ5_setLength_d00df 13 = .ok (.aload_n 0, 1) := by decide +kernel
theorem dJ5_setLength_d00df_14 : decode cJ5_setLength_d00df 14 = .ok (.iload_n 1, 1) := by decide +kernel
theorem dJ5_setLength_d00df_15 : decode cJ5_setLength_d00df 15 = .ok (.invokevirtual 100, 3) := by decide +kernel
theorem dJ5_setLength_d00df_18 : decode cJ5_setLength_d00df 18 = .ok (.aload_n 0, 1) := by decide +kernel
theorem dJ5_setLength_d00df_19 : decode cJ5_setLength_d00df 19 = .ok (.getfield 79, 3) := by decide +kernel
theorem dJ5_setLength_d00df_22 : decode cJ5_setLength_d00df 22 = .ok (.iload_n 1, 1) := by decide +kernel
theorem dJ5_setLength_d00df_23 : decode cJ5_setLength_d00df 23 = .ok (.if_icmp .ge 40, 3) := by decide +kernel
theorem dJ5_setLength_d00df_26 : decode cJ5_setLength_d00df 26 = .ok (.aload_n 0, 1) := by decide +kernel
theorem dJ5_setLength_d00df_27 : decode cJ5_setLength_d00df 27 = .ok (.invokevirtual 83, 3) := by decide +kernel
theorem dJ5_setLength_d00df_30 : decode cJ5_setLength_d00df 30 = .ok (.ifCond .eq 18, 3) := by decide +kernel
theorem dJ5_setLength_d00df_33 : decode cJ5_setLength_d00df 33 = .ok (.aload_n 0, 1) := by decide +kernel
theorem dJ5_setLength_d00df_34 : decode cJ5_setLength_d00df 34 = .ok (.getfield 15, 3) := by decide +kernel
theorem dJ5_setLength_d00df_37 : decode cJ5_setLength_d00df 37 = .ok (.aload_n 0, 1) := by decide +kernel
theorem dJ5_setLength_d00df_38 : decode cJ5_setLength_d00df 38 = .ok (.getfield 79, 3) := by decide +kernel
theorem dJ5_setLength_d00df_41 : decode cJ5_setLength_d00df 41 = .ok (.iload_n 1, 1) := by decide +kernel
theorem dJ5_setLength_d00df_42 : decode cJ5_setLength_d00df 42 = .ok (.invokestatic 133, 3) := by decide +kernel
theorem dJ5_setLength_d00df_45 : decode cJ5_setLength_d00df 45 = .ok (.goto 31, 3) := by decide +kernel
theorem dJ5_setLength_d00df_48 : decode cJ5_setLength_d00df 48 = .ok (.aload_n 0, 1) := by decide +kernel
theorem dJ5_setLength_d00df_49 : decode cJ5_setLength_d00df 49 = .ok (.getfield 15, 3) := by decide +kernel
theorem dJ5_setLength_d00df_52 : decode cJ5_setLength_d00df 52 = .ok (.aload_n 0, 1) := by decide +kernel
theorem dJ5_setLength_d00df_53 : decode cJ5_setLength_d00df 53 = .ok (.getfield 79, 3) := by decide +kernel
theorem dJ5_setLength_d00df_56 : decode cJ5_setLength_d00df 56 = .ok (.iload_n 1, 1) := by decide +kernel
theorem dJ5_setLength_d00df_57 : decode cJ5_setLength_d00df 57 = .ok (.invokestatic 137, 3) := by decide +kernel
theorem dJ5_setLength_d00df_60 : decode cJ5_setLength_d00df 60 = .ok (.goto 16, 3) := by decide +kernel
theorem dJ5_setLength_d00df_63 : decode cJ5_setLength_d00df 63 = .ok (.aload_n 0, 1) := by decide +kernel
theorem dJ5_setLength_d00df_64 : decode cJ5_setLength_d00df 64 = .ok (.getfield 79, 3) := by decide +kernel
theorem dJ5_setLength_d00df_67 : decode cJ5_setLength_d00df 67 = .ok (.iload_n 1, 1) := by decide +kernel
theorem dJ5_setLength_d00df_68 : decode cJ5_setLength_d00df 68 = .ok (.if_icmp .le 8, 3) := by decide +kernel
theorem dJ5_setLength_d00df_71 : decode cJ5_setLength_d00df 71 = .ok (.aload_n 0, 1) := by decide +kernel
theorem dJ5_setLength_d00df_72 : decode cJ5_setLength_d00df 72 = .ok (.iconst 1, 1) := by decide +kernel
theorem dJ5_setLength_d00df_73 : decode cJ5_setLength_d00df 73 = .ok (.putfield 73, 3) := by decide +kernel
theorem dJ5_setLength_d00df_76 : decode cJ5_setLength_d00df 76 = .ok (.aload_n 0, 1) := by decide +kernel
theorem dJ5_setLength_d00df_77 : decode cJ5_setLength_d00df 77 = .ok (.iload_n 1, 1) := by decide +kernel
theorem dJ5_setLength_d00df_78 : decode cJ5_setLength_d00df 78 = .ok (.putfield 79, 3) := by decide +kernel
theorem dJ5_setLength_d00df_81 : decode cJ5_setLength_d00df 81 = .ok (.return_, 1) := by decide +kernel
theorem dJ5_charAt_5068e_0 : decode cJ5_charAt_5068e 0 = .ok (.aload_n 0, 1) := by decide +kernel
theorem dJ5_charAt_5068e_1 : decode cJ5_charAt_5068e 1 = .ok (.getfield 22, 3) := by decide +kernel
theorem dJ5_charAt_5068e_4 : decode cJ5_charAt_5068e 4 = .ok (.istore_n 2, 1) := by decide +kernel
theorem dJ5_charAt_5068e_5 : decode cJ5_charAt_5068e 5 = .ok (.aload_n 0, 1) := by decide +kernel
theorem dJ5_charAt_5068e_6 : decode cJ5_charAt_5068e 6 = .ok (.getfield 15, 3) := by decide +kernel
theorem dJ5_charAt_5068e_9 : decode cJ5_charAt_5068e 9 = .ok (.astore_n 3, 1) := by decide +kernel
theorem dJ5_charAt_5068e_10 : decode cJ5_charAt_5068e 10 = .ok (.aload_n 0, 1) := by decide +kernel
theorem dJ5_charAt_5068e_11 : decode cJ5_charAt_5068e 11 = .ok (.getfield 79, 3) := by decide +kernel
theorem dJ5_charAt_5068e_14 : decode cJ5_charAt_5068e 14 = .ok (.aload_n 3, 1) := by decide +kernel
theorem dJ5_charAt_5068e_15 : decode cJ5_charAt_5068e 15 = .ok (.arraylength, 1) := by decide +kernel
theorem dJ5_charAt_5068e_16 : decode cJ5_charAt_5068e 16 = .ok (.iload_n 2, 1) := by decide +kernel
theorem dJ5_charAt_5068e_17 : decode cJ5_charAt_5068e 17 = .ok (.ishr, 1) := by decide +kernel
theorem dJ5_charAt_5068e_18 : decode cJ5_charAt_5068e 18 = .ok (.invokestatic 138, 3) := by decide +kernel
theorem dJ5_charAt_5068e_21 : decode cJ5_charAt_5068e 21 = .ok (.istore 4, 2) := by decide +kernel
theorem dJ5_charAt_5068e_23 : decode cJ5_charAt_5068e 23 = .ok (.iload_n 1, 1) := by decide +kernel
theorem dJ5_charAt_5068e_24 : decode cJ5_charAt_5068e 24 = .ok (.iload 4, 2) := by decide +kernel
theorem dJ5_charAt_5068e_26 : decode cJ5_charAt_5068e 26 = .ok (.invokestatic 144, 3) := by decide +kernel
theorem dJ5_charAt_5068e_29 : decode cJ5_charAt_5068e 29 = .ok (.iload_n 2, 1) := by decide +kernel
theorem dJ5_charAt_5068e_30 : decode cJ5_charAt_5068e 30 = .ok (.ifCond .ne 12, 3) := by decide +kernel
theorem dJ5_charAt_5068e_33 : decode cJ5_charAt_5068e 33 = .ok (.aload_n 3, 1) := by decide +kernel
theorem dJ5_charAt_5068e_34 : decode cJ5_charAt_5068e 34 = .ok (.iload_n 1, 1) := by decide +kernel
theorem dJ5_charAt_5068e_35 : decode cJ5_charAt_5068e 35 = .ok (.baload, 1) := by decide +kernel
theorem dJ5_charAt_5068e_36 : decode cJ5_charAt_5068e 36 = .ok (.sipush 255, 3) := by decide +kernel
theorem dJ5_charAt_5068e_39 : decode cJ5_charAt_5068e 39 = .ok (.iand, 1) := by decide +kernel
theorem dJ5_charAt_5068e_40 : decode cJ5_charAt_5068e 40 = .ok (.i2c, 1) := by decide +kernel
theorem dJ5_charAt_5068e_41 : decode cJ5_charAt_5068e 41 = .ok (.ireturn, 1) := by decide +kernel
theorem dJ5_charAt_5068e_42 : decode cJ5_charAt_5068e 42 = .ok (.aload_n 3, 1) := by decide +kernel
theorem dJ5_charAt_5068e_43 : decode cJ5_charAt_5068e 43 = .ok (.iload_n 1, 1) := by decide +kernel
theorem dJ5_charAt_5068e_44 : decode cJ5_charAt_5068e 44 = .ok (.invokestatic 148, 3) := by decide +kernel
theorem dJ5_charAt_5068e_47 : decode cJ5_charAt_5068e 47 = .ok (.ireturn, 1) := by decide +kernel
theorem dJ5_append_cf1ce_0 : decode cJ5_append_cf1ce 0 = .ok (.aload_n 1, 1) := by decide +kernel
theorem dJ5_append_cf1ce_1 : decode cJ5_append_cf1ce 1 = .ok (.ifnonnull 8, 3) := by decide +kernel
theorem dJ5_append_cf1ce_4 : decode cJ5_append_cf1ce 4 = .ok (.aload_n 0, 1) := by decide +kernel
theorem dJ5_append_cf1ce_5 : decode cJ5_append_cf1ce 5 = .ok (.invokevirtual 204, 3) := by decide +kernel
theorem dJ5_append_cf1ce_8 : decode cJ5_append_cf1ce 8 = .ok (.areturn, 1) := by decide +kernel
theorem dJ5_append_cf1ce_9 : decode cJ5_append_cf1ce 9 = .ok (.aload_n 1, 1) := by decide +kernel
theorem dJ5_append_cf1ce_10 : decode cJ5_append_cf1ce 10 = .ok (.invokevirtual 32, 3) := by decide +kernel
theorem dJ5_append_cf1ce_13 : decode cJ5_append_cf1ce 13 = .ok (.istore_n 2, 1) := by decide +kernel
theorem dJ5_append_cf1ce_14 : decode cJ5_append_cf1ce 14 = .ok (.aload_n 0, 1) := by decide +kernel
theorem dJ5_append_cf1ce_15 : decode cJ5_append_cf1ce 15 = .ok (.aload_n 0, 1) := by decide +kernel
theorem dJ5_append_cf1ce_16 : decode cJ5_append_cf1ce 16 = .ok (.getfield 79, 3) := by decide +kernel
theorem dJ5_append_cf1ce_19 : decode cJ5_append_cf1ce 19 = .ok (.iload_n 2, 1) := by decide +kernel
theorem dJ5_append_cf1ce_20 : decode cJ5_append_cf1ce 20 = .ok (.iadd, 1) := by decide +kernel
theorem dJ5_append_cf1ce_21 : decode cJ5_append_cf1ce 21 = .ok (.invokevirtual 100, 3) := by decide +kernel
theorem dJ5_append_cf1ce_24 : decode cJ5_append_cf1ce 24 = .ok (.aload_n 0, 1) := by decide +kernel
theorem dJ5_append_cf1ce_25 : decode cJ5_append_cf1ce 25 = .ok (.aload_n 0, 1) := by decide +kernel
theorem dJ5_append_cf1ce_26 : decode cJ5_append_cf1ce 26 = .ok (.getfield 79, 3) := by decide +kernel
theorem dJ5_append_cf1ce_29 : decode cJ5_append_cf1ce 29 = .ok (.aload_n 1, 1) := by decide +kernel
theorem dJ5_append_cf1ce_30 : decode cJ5_append_cf1ce 30 = .ok (.invokevirtual 208, 3) := by decide +kernel
theorem dJ5_append_cf1ce_33 : decode cJ5_append_cf1ce 33 = .ok (.aload_n 0, 1) := by decide +kernel
theorem dJ5_append_cf1ce_34 : decode cJ5_append_cf1ce 34 = .ok (.dup, 1) := by decide +kernel
theorem dJ5_append_cf1ce_35 : decode cJ5_append_cf1ce 35 = .ok (.getfield 79, 3) := by decide +kernel
theorem dJ5_append_cf1ce_38 : decode cJ5_append_cf1ce 38 = .ok (.iload_n 2, 1) := by decide +kernel
theorem dJ5_append_cf1ce_39 : decode cJ5_append_cf1ce 39 = .ok (.iadd, 1) := by decide +kernel
theorem dJ5_append_cf1ce_40 : decode cJ5_append_cf1ce 40 = .ok (.putfield 79, 3) := by decide +kernel
theorem dJ5_append_cf1ce_43 : decode cJ5_append_cf1ce 43 = .ok (.aload_n 0, 1) := by decide +kernel
theorem dJ5_append_cf1ce_44 : decode cJ5_append_cf1ce 44 = .ok (.areturn, 1) := by decide +kernel
theorem dJ5_append_3fe6f_0 : decode cJ5_append_3fe6f 0 = .ok (.aload_n 0, 1) := by decide +kernel
theorem dJ5_append_3fe6f_1 : decode cJ5_append_3fe6f 1 = .ok (.aload_n 0, 1) := by decide +kernel
theorem dJ5_append_3fe6f_2 : decode cJ5_append_3fe6f 2 = .ok (.getfield 79, 3) := by decide +kernel
theorem dJ5_append_3fe6f_5 : decode cJ5_append_3fe6f 5 = .ok (.iconst 1, 1) := by decide +kernel
theorem dJ5_append_3fe6f_6 : decode cJ5_append_3fe6f 6 = .ok (.iadd, 1) := by decide +kernel
theorem dJ5_append_3fe6f_7 : decode cJ5_append_3fe6f 7 = .ok (.invokevirtual 100, 3) := by decide +kernel
theorem dJ5_append_3fe6f_10 : decode cJ5_append_3fe6f 10 = .ok (.aload_n 0, 1) := by decide +kernel
theorem dJ5_append_3fe6f_11 : decode cJ5_append_3fe6f 11 = .ok (.invokevirtual 83, 3) := by decide +kernel
theorem dJ5_append_3fe6f_14 : decode cJ5_append_3fe6f 14 = .ok (.ifCond .eq 31, 3) := by decide +kernel
theorem dJ5_append_3fe6f_17 : decode cJ5_append_3fe6f 17 = .ok (.iload_n 1, 1) := by decide +kernel
theorem dJ5_append_3fe6f_18 : decode cJ5_append_3fe6f 18 = .ok (.invokestatic 191, 3) := by decide +kernel
theorem dJ5_append_3fe6f_21 : decode cJ5_append_3fe6f 21 = .ok (.ifCond .eq 24, 3) := by decide +kernel
theorem dJ5_append_3fe6f_24 : decode cJ5_append_3fe6f 24 = .ok (.aload_n 0, 1) := by decide +kernel
theorem dJ5_append_3fe6f_25 : decode cJ5_append_3fe6f 25 = .ok (.getfield 15, 3) := by decide +kernel
theorem dJ5_append_3fe6f_28 : decode cJ5_append_3fe6f 28 = .ok (.aload_n 0, 1) := by decide +kernel
theorem dJ5_append_3fe6f_29 : decode cJ5_append_3fe6f 29 = .ok (.dup, 1) := by decide +kernel
theorem dJ5_append_3fe6f_30 : decode cJ5_append_3fe6f 30 = .ok (.getfield 79, 3) := by decide +kernel
theorem dJ5_append_3fe6f_33 : decode cJ5_append_3fe6f 33 = .ok (.dup_x1, 1) := by decide +kernel
theorem dJ5_append_3fe6f_34 : decode cJ5_append_3fe6f 34 = .ok (.iconst 1, 1) := by decide +kernel
theorem dJ5_append_3fe6f_35 : decode cJ5_append_3fe6f 35 = .ok (.iadd, 1) := by decide +kernel
theorem dJ5_append_3fe6f_36 : decode cJ5_append_3fe6f 36 = .ok (.putfield 79, 3) := by decide +kernel
theorem dJ5_append_3fe6f_39 : decode cJ5_append_3fe6f 39 = .ok (.iload_n 1, 1) := by decide +kernel
theorem dJ5_append_3fe6f_40 : decode cJ5_append_3fe6f 40 = .ok (.i2b, 1) := by decide +kernel
theorem dJ5_append_3fe6f_41 : decode cJ5_append_3fe6f 41 = .ok (.bastore, 1) := by decide +kernel
theorem dJ5_append_3fe6f_42 : decode cJ5_append_3fe6f 42 = .ok (.goto 33, 3) := by decide +kernel
theorem dJ5_append_3fe6f_45 : decode cJ5_append_3fe6f 45 = .ok (.aload_n 0, 1) := by decide +kernel
theorem dJ5_append_3fe6f_46 : decode cJ5_append_3fe6f 46 = .ok (.invokevirtual 83, 3) := by decide +kernel
theorem dJ5_append_3fe6f_49 : decode cJ5_append_3fe6f 49 = .ok (.ifCond .eq 7, 3) := by decide +kernel
theorem dJ5_append_3fe6f_52 : decode cJ5_append_3fe6f 52 = .ok (.aload_n 0, 1) := by decide +kernel
theorem dJ5_append_3fe6f_53 : decode cJ5_append_3fe6f 53 = .ok (.invokevirtual 195, 3) := by decide +kernel
theorem dJ5_append_3fe6f_56 : decode cJ5_append_3fe6f 56 = .ok (.aload_n 0, 1) := by decide +kernel
theorem dJ5_append_3fe6f_57 : decode cJ5_append_3fe6f 57 = .ok (.getfield 15, 3) := by decide +kernel
theorem dJ5_append_3fe6f_60 : decode cJ5_append_3fe6f 60 = .ok (.aload_n 0, 1) := by decide +kernel
theorem dJ5_append_3fe6f_61 : decode cJ5_append_3fe6f 61 = .ok (.dup, 1) := by decide +kernel
theorem dJ5_append_3fe6f_62 : decode cJ5_append_3fe6f 62 = .ok (.getfield 79, 3) := by decide +kernel
theorem dJ5_append_3fe6f_65 : decode cJ5_append_3fe6f 65 = .ok (.dup_x1, 1) := by decide +kernel
theorem dJ5_append_3fe6f_66 : decode cJ5_append_3fe6f 66 = .ok (.iconst 1, 1) := by decide +kernel
theorem dJ5_append_3fe6f_67 : decode cJ5_append_3fe6f 67 = .ok (.iadd, 1) := by decide +kernel
theorem dJ5_append_3fe6f_68 : decode cJ5_append_3fe6f 68 = .ok (.putfield 79, 3) := by decide +kernel
theorem dJ5_append_3fe6f_71 : decode cJ5_append_3fe6f 71 = .ok (.iload_n 1, 1) := by decide +kernel
theorem dJ5_append_3fe6f_72 : decode cJ5_append_3fe6f 72 = .ok (.invokestatic 197, 3) := by decide +kernel
theorem dJ5_append_3fe6f_75 : decode cJ5_append_3fe6f 75 = .ok (.aload_n 0, 1) := by decide +kernel
theorem dJ5_append_3fe6f_76 : decode cJ5_append_3fe6f 76 = .ok (.areturn, 1) := by decide +kernel
theorem dJ5_append_c97b9_0 : decode cJ5_append_c97b9 0 = .ok (.aload_n 0, 1) := by decide +kernel
theorem dJ5_append_c97b9_1 : decode cJ5_append_c97b9 1 = .ok (.getfield 79, 3) := by decide +kernel
theorem dJ5_append_c97b9_4 : decode cJ5_append_c97b9 4 = .ok (.istore_n 2, 1) := by decide +kernel
theorem dJ5_append_c97b9_5 : decode cJ5_append_c97b9 5 = .ok (.iload_n 2, 1) := by decide +kernel
theorem dJ5_append_c97b9_6 : decode cJ5_append_c97b9 6 = .ok (.iload_n 1, 1) := by decide +kernel
theorem dJ5_append_c97b9_7 : decode cJ5_append_c97b9 7 = .ok (.invokestatic 245, 3) := by decide +kernel
theorem dJ5_append_c97b9_10 : decode cJ5_append_c97b9 10 = .ok (.iadd, 1) := by decide +kernel
theorem dJ5_append_c97b9_11 : decode cJ5_append_c97b9 11 = .ok (.istore_n 3, 1) := by decide +kernel
theorem dJ5_append_c97b9_12 : decode cJ5_append_c97b9 12 = .ok (.aload_n 0, 1) := by decide +kernel
theorem dJ5_append_c97b9_13 : decode cJ5_append_c97b9 13 = .ok (.iload_n 3, 1) := by decide +kernel
theorem dJ5_append_c97b9_14 : decode cJ5_append_c97b9 14 = .ok (.invokevirtual 100, 3) := by decide +kernel
theorem dJ5_append_c97b9_17 : decode cJ5_append_c97b9 17 = .ok (.aload_n 0, 1) := by decide +kernel
theorem dJ5_append_c97b9_18 : decode cJ5_append_c97b9 18 = .ok (.invokevirtual 83, 3) := by decide +kernel
theorem dJ5_append_c97b9_21 : decode cJ5_append_c97b9 21 = .ok (.ifCond .eq 16, 3) := by decide +kernel
theorem dJ5_append_c97b9_24 : decode cJ5_append_c97b9 24 = .ok (.iload_n 1, 1) := by decide +kernel
theorem dJ5_append_c97b9_25 : decode cJ5_append_c97b9 25 = .ok (.iload_n 3, 1) := by decide +kernel
theorem dJ5_append_c97b9_26 : decode cJ5_append_c97b9 26 = .ok (.aload_n 0, 1) := by decide +kernel
theorem dJ5_append_c97b9_27 : decode cJ5_append_c97b9 27 = .ok (.getfield 15, 3) := by decide +kernel
theorem dJ5_append_c97b9_30 : decode cJ5_append_c97b9 30 = .ok (.invokestatic 248, 3) := by decide +kernel
theorem dJ5_append_c97b9_33 : decode cJ5_append_c97b9 33 = .ok (.pop, 1) := by decide +kernel
theorem dJ5_append_c97b9_34 : decode cJ5_append_c97b9 34 = .ok (.goto 14, 3) := by decide +kernel
theorem dJ5_append_c97b9_37 : decode cJ5_append_c97b9 37 = .ok (.iload_n 1, 1) := by decide +kernel
theorem dJ5_append_c97b9_38 : decode cJ5_append_c97b9 38 = .ok (.iload_n 2, 1) := by decide +kernel
theorem dJ5_append_c97b9_39 : decode cJ5_append_c97b9 39 = .ok (.iload_n 3, 1) := by decide +kernel
theorem dJ5_append_c97b9_40 : decode cJ5_append_c97b9 40 = .ok (.aload_n 0, 1) := by decide +kernel
theorem dJ5_append_c97b9_41 : decode cJ5_append_c97b9 41 = .ok (.getfield 15, 3) := by decide +kernel
theorem dJ5_append_c97b9_44 : decode cJ5_append_c97b9 44 = .ok (.invokestatic 251, 3) := by decide +kernel
theorem dJ5_append_c97b9_47 : decode cJ5_append_c97b9 47 = .ok (.pop, 1) := by decide +kernel
theorem dJ5_append_c97b9_48 : decode cJ5_append_c97b9 48 = .ok (.aload_n 0, 1) := by decide +kernel
theorem dJ5_append_c97b9_49 : decode cJ5_append_c97b9 49 = .ok (.iload_n 3, 1) := by decide +kernel
theorem dJ5_append_c97b9_50 : decode cJ5_append_c97b9 50 = .ok (.putfield 79, 3) := by decide +kernel
theorem dJ5_append_c97b9_53 : decode cJ5_append_c97b9 53 = .ok (.aload_n 0, 1) := by decide +kernel
theorem dJ5_append_c97b9_54 : decode cJ5_append_c97b9 54 = .ok (.areturn, 1) := by decide +kernel
theorem dJ5_getValue_6d5f1_0 : decode cJ5_getValue_6d5f1 0 = .ok (.aload_n 0, 1) := by decide +kernel
theorem dJ5_getValue_6d5f1_1 : decode cJ5_getValue_6d5f1 1 = .ok (.getfield 15, 3) := by decide +kernel
theorem dJ5_getValue_6d5f1_4 : decode cJ5_getValue_6d5f1 4 = .ok (.areturn, 1) := by decide +kernel
theorem dJ5_isLatin1_aae02_0 : decode cJ5_isLatin1_aae02 0 = .ok (.getstatic 18, 3) := by decide +kernel
theorem dJ5_isLatin1_aae02_3 : decode cJ5_isLatin1_aae02 3 = .ok (.ifCond .eq 14, 3) := by decide +kernel
theorem dJ5_isLatin1_aae02_6 : decode cJ5_isLatin1_aae02 6 = .ok (.aload_n 0, 1) := by decide +kernel
theorem dJ5_isLatin1_aae02_7 : decode cJ5_isLatin1_aae02 7 = .ok (.getfield 22, 3) := by decide +kernel
theorem dJ5_isLatin1_aae02_10 : decode cJ5_isLatin1_aae02 10 = .ok (.ifCond .ne 7, 3) := by decide +kernel
theorem dJ5_isLatin1_aae02_13 : decode cJ5_isLatin1_aae02 13 = .ok (.iconst 1, 1) := by decide +kernel
theorem dJ5_isLatin1_aae02_14 : decode cJ5_isLatin1_aae02 14 = .ok (.goto 4, 3) := by decide +kernel
theorem dJ5_isLatin1_aae02_17 : decode cJ5_isLatin1_aae02 17 = .ok (.iconst 0, 1) := by decide +kernel
theorem dJ5_isLatin1_aae02_18 : decode cJ5_isLatin1_aae02 18 = .ok (.ireturn, 1) := by decide +kernel
theorem dJ5_inflateIfNeededFor_a7421_0 : decode cJ5_inflateIfNeededFor_a7421 0 = .ok (.getstatic 18, 3) := by decide +kernel
theorem dJ5_inflateIfNeededFor_a7421_3 : decode cJ5_inflateIfNeededFor_a7421 3 = .ok (.ifCond .eq 18, 3) := by decide +kernel
theorem dJ5_inflateIfNeededFor_a7421_6 : decode cJ5_inflateIfNeededFor_a7421 6 = .ok (.aload_n 0, 1) := by decide +kernel
theorem dJ5_inflateIfNeededFor_a7421_7 : decode cJ5_inflateIfNeededFor_a7421 7 = .ok (.getfield 22, 3) := by decide +kernel
theorem dJ5_inflateIfNeededFor_a7421_10 : decode cJ5_inflateIfNeededFor_a7421 10 = .ok (.aload_n 1, 1) := by decide +kernel
theorem dJ5_inflateIfNeededFor_a7421_11 : decode cJ5_inflateIfNeededFor_a7421 11 = .ok (.invokevirtual 40, 3) := by decide +kernel
theorem dJ5_inflateIfNeededFor_a7421_14 : decode cJ5_inflateIfNeededFor_a7421 14 = .ok (.if_icmp .eq 7, 3) := by decide +kernel
theorem dJ5_inflateIfNeededFor_a7421_17 : decode cJ5_inflateIfNeededFor_a7421 17 = .ok (.aload_n 0, 1) := by decide +kernel
theorem dJ5_inflateIfNeededFor_a7421_18 : decode cJ5_inflateIfNeededFor_a7421 18 = .ok (.invokevirtual 195, 3) := by decide +kernel
theorem dJ5_inflateIfNeededFor_a7421_21 : decode cJ5_inflateIfNeededFor_a7421 21 = .ok (.return_, 1) := by decide +kernel
theorem dJ5_putStringAt_47b60_0 : decode cJ5_putStringAt_47b60 0 = .ok (.aload_n 0, 1) := by decide +kernel
theorem dJ5_putStringAt_47b60_1 : decode cJ5_putStringAt_47b60 1 = .ok (.aload_n 2, 1) := by decide +kernel
theorem dJ5_putStringAt_47b60_2 : decode cJ5_putStringAt_47b60 2 = .ok (.invokevirtual 397, 3) := by decide +kernel
theorem dJ5_putStringAt_47b60_5 : decode cJ5_putStringAt_47b60 5 = .ok (.aload_n 2, 1) := by decide +kernel
theorem dJ5_putStringAt_47b60_6 : decode cJ5_putStringAt_47b60 6 = .ok (.aload_n 0, 1) := by decide +kernel
theorem dJ5_putStringAt_47b60_7 : decode cJ5_putStringAt_47b60 7 = .ok (.getfield 15, 3) := by decide +kernel
theorem dJ5_putStringAt_47b60_10 : decode cJ5_putStringAt_47b60 10 = .ok (.iload_n 1, 1) := by decide +kernel
theorem dJ5_putStringAt_47b60_11 : decode cJ5_putStringAt_47b60 11 = .ok (.aload_n 0, 1) := by decide +kernel
theorem dJ5_putStringAt_47b60_12 : decode cJ5_putStringAt_47b60 12 = .ok (.getfield 22, 3) := by decide +kernel
theorem dJ5_putStringAt_47b60_15 : decode cJ5_putStringAt_47b60 15 = .ok (.invokevirtual 399, 3) := by decide +kernel
theorem dJ5_putStringAt_47b60_18 : decode cJ5_putStringAt_47b60 18 = .ok (.return_, 1) := by decide +kernel
theorem dJ6_getChars_ba4f3_0 : decode cJ6_getChars_ba4f3 0 = .ok (.iload_n 1, 1) := by decide +kernel
theorem dJ6_getChars_ba4f3_1 : decode cJ6_getChars_ba4f3 1 = .ok (.istore 5, 2) := by decide +kernel
theorem dJ6_getChars_ba4f3_3 : decode cJ6_getChars_ba4f3 3 = .ok (.iload_n 0, 1) := by decide +kernel
theorem dJ6_getChars_ba4f3_4 : decode cJ6_getChars_ba4f3 4 = .ok (.ifCond .ge 7, 3) := by decide +kernel
theorem dJ6_getChars_ba4f3_7 : decode cJ6_getChars_ba4f3 7 = .ok (.iconst 1, 1) := by decide +kernel
theorem dJ6_getChars_ba4f3_8 : decode cJ6_getChars_ba4f3 8 = .ok (.goto 4, 3) := by decide +kernel
theorem dJ6_getChars_ba4f3_11 : decode cJ6_getChars_ba4f3 11 = .ok (.iconst 0, 1) := by decide +kernel
theorem dJ6_getChars_ba4f3_12 : decode cJ6_getChars_ba4f3 12 = .ok (.istore 6, 2) := by decide +kernel
theorem dJ6_getChars_ba4f3_14 : decode cJ6_getChars_ba4f3 14 = .ok (.iload 6, 2) := by decide +kernel
theorem dJ6_getChars_ba4f3_16 : decode cJ6_getChars_ba4f3 16 = .ok (.ifCond .ne 6, 3) := by decide +kernel
theorem dJ6_getChars_ba4f3_19 : decode cJ6_getChars_ba4f3 19 = .ok (.iload_n 0, 1) := by decide +kernel
theorem dJ6_getChars_ba4f3_20 : decode cJ6_getChars_ba4f3 20 = .ok (.ineg, 1) := by decide +kernel
theorem dJ6_getChars_ba4f3_21 : decode cJ6_getChars_ba4f3 21 = .ok (.istore_n 0, 1) := by decide +kernel
theorem dJ6_getChars_ba4f3_22 : decode cJ6_getChars_ba4f3 22 = .ok (.iload_n 0, 1) := by decide +kernel
theorem dJ6_getChars_ba4f3_23 : decode cJ6_getChars_ba4f3 23 = .ok (.bipush (-100), 2) := by decide +kernel
theorem dJ6_getChars_ba4f3_25 : decode cJ6_getChars_ba4f3 25 = .ok (.if_icmp .gt 47, 3) := by decide +kernel
theorem dJ6_getChars_ba4f3_28 : decode cJ6_getChars_ba4f3 28 = .ok (.iload_n 0, 1) := by decide +kernel
theorem dJ6_getChars_ba4f3_29 : decode cJ6_getChars_ba4f3 29 = .ok (.bipush 100, 2) := by decide +kernel
theorem dJ6_getChars_ba4f3_31 : decode cJ6_getChars_ba4f3 31 = .ok (.idiv, 1) := by decide +kernel
theorem dJ6_getChars_ba4f3_32 : decode cJ6_getChars_ba4f3 32 = .ok (.istore_n 3, 1) := by decide +kernel
theorem dJ6_getChars_ba4f3_33 : decode cJ6_getChars_ba4f3 33 = .ok (.iload_n 3, 1) := by decide +kernel
theorem dJ6_getChars_ba4f3_34 : decode cJ6_getChars_ba4f3 34 = .ok (.bipush 100, 2) := by decide +kernel
theorem dJ6_getChars_ba4f3_36 : decode cJ6_getChars_ba4f3 36 = .ok (.imul, 1) := by decide +kernel
theorem dJ6_getChars_ba4f3_37 : decode cJ6_getChars_ba4f3 37 = .ok (.iload_n 0, 1) := by decide +kernel
theorem dJ6_getChars_ba4f3_38 : decode cJ6_getChars_ba4f3 38 = .ok (.isub, 1) := by decide +kernel
theorem dJ6_getChars_ba4f3_39 : decode cJ6_getChars_ba4f3 39 = .ok (.istore 4, 2) := by decide +kernel
theorem dJ6_getChars_ba4f3_41 : decode cJ6_getChars_ba4f3 41 = .ok (.iload_n 3, 1) := by decide +kernel
theorem dJ6_getChars_ba4f3_42 : decode cJ6_getChars_ba4f3 42 = .ok (.istore_n 0, 1) := by decide +kernel
theorem dJ6_getChars_ba4f3_43 : decode cJ6_getChars_ba4f3 43 = .ok (.aload_n 2, 1) := by decide +kernel
theorem dJ6_getChars_ba4f3_44 : decode cJ6_getChars_ba4f3 44 = .ok (.iinc 5 (-1), 3) := by decide +kernel
theorem dJ6_getChars_ba4f3_47 : decode cJ6_getChars_ba4f3 47 = .ok (.iload 5, 2) := by decide +kernel
theorem dJ6_getChars_ba4f3_49 : decode cJ6_getChars_ba4f3 49 = .ok (.getstatic 83, 3) := by decide +kernel
theorem dJ6_getChars_ba4f3_52 : decode cJ6_getChars_ba4f3 52 = .ok (.iload 4, 2) := by decide +kernel
theorem dJ6_getChars_ba4f3_54 : decode cJ6_getChars_ba4f3 54 = .ok (.baload, 1) := by decide +kernel
theorem dJ6_getChars_ba4f3_55 : decode cJ6_getChars_ba4f3 55 = .ok (.bastore, 1) := by decide +kernel
theorem dJ6_getChars_ba4f3_56 : decode cJ6_getChars_ba4f3 56 = .ok (.aload_n 2, 1) := by decide +kernel
theorem dJ6_getChars_ba4f3_57 : decode cJ6_getChars_ba4f3 57 = .ok (.iinc 5 (-1), 3) := by decide +kernel
theorem dJ6_getChars_ba4f3_60 : decode cJ6_getChars_ba4f3 60 = .ok (.iload 5, 2) := by decide +kernel
theorem dJ6_getChars_ba4f3_62 : decode cJ6_getChars_ba4f3 62 = .ok (.getstatic 87, 3) := by decide +kernel
theorem dJ6_getChars_ba4f3_65 : decode cJ6_getChars_ba4f3 65 = .ok (.iload 4, 2) := by decide +kernel
theorem dJ6_getChars_ba4f3_67 : decode cJ6_getChars_ba4f3 67 = .ok (.baload, 1) := by decide +kernel
theorem dJ6_getChars_ba4f3_68 : decode cJ6_getChars_ba4f3 68 = .ok (.bastore, 1) := by decide +kernel
theorem dJ6_getChars_ba4f3_69 : decode cJ6_getChars_ba4f3 69 = .ok (.goto (-47), 3) := by decide +kernel
theorem dJ6_getChars_ba4f3_72 : decode cJ6_getChars_ba4f3 72 = .ok (.aload_n 2, 1) := by decide +kernel
theorem dJ6_getChars_ba4f3_73 : decode cJ6_getChars_ba4f3 73 = .ok (.iinc 5 (-1), 3) := by decide +kernel
theorem dJ6_getChars_ba4f3_76 : decode cJ6_getChars_ba4f3 76 = .ok (.iload 5, 2) := by decide +kernel
theorem dJ6_getChars_ba4f3_78 : decode cJ6_getChars_ba4f3 78 = .ok (.getstatic 83, 3) := by decide +kernel
theorem dJ6_getChars_ba4f3_81 : decode cJ6_getChars_ba4f3 81 = .ok (.iload_n 0, 1) := by decide +kernel
theorem dJ6_getChars_ba4f3_82 : decode cJ6_getChars_ba4f3 82 = .ok (.ineg, 1) := by decide +kernel
theorem dJ6_getChars_ba4f3_83 : decode cJ6_getChars_ba4f3 83 = .ok (.baload, 1) := by decide +kernel
theorem dJ6_getChars_ba4f3_84 : decode cJ6_getChars_ba4f3 84 = .ok (.bastore, 1) := by decide +kernel
theorem dJ6_getChars_ba4f3_85 : decode cJ6_getChars_ba4f3 85 = .ok (.iload_n 0, 1) := by decide +kernel
theorem dJ6_getChars_ba4f3_86 : decode cJ6_getChars_ba4f3 86 = .ok (.bipush (-9), 2) := by decide +kernel
theorem dJ6_getChars_ba4f3_88 : decode cJ6_getChars_ba4f3 88 = .ok (.if_icmp .ge 16, 3) := by decide +kernel
theorem dJ6_getChars_ba4f3_91 : decode cJ6_getChars_ba4f3 91 = .ok (.aload_n 2, 1) := by decide +kernel
theorem dJ6_getChars_ba4f3_92 : decode cJ6_getChars_ba4f3 92 = .ok (.iinc 5 (-1), 3) := by decide +kernel
theorem dJ6_getChars_ba4f3_95 : decode cJ6_getChars_ba4f3 95 = .ok (.iload 5, 2) := by decide +kernel
theorem dJ6_getChars_ba4f3_97 : decode cJ6_getChars_ba4f3 97 = .ok (.getstatic 87, 3) := by decide +kernel
theorem dJ6_getChars_ba4f3_100 : decode cJ6_getChars_ba4f3 100 = .ok (.iload_n 0, 1) := by decide +kernel
theorem dJ6_getChars_ba4f3_101 : decode cJ6_getChars_ba4f3 101 = .ok (.ineg, 1) := by decide +kernel
theorem dJ6_getChars_ba4f3_102 : decode cJ6_getChars_ba4f3 102 = .ok (.baload, 1) := by decide +kernel
theorem dJ6_getChars_ba4f3_103 : decode cJ6_getChars_ba4f3 103 = .ok (.bastore, 1) := by decide +kernel
theorem dJ6_getChars_ba4f3_104 : decode cJ6_getChars_ba4f3 104 = .ok (.iload 6, 2) := by decide +kernel
theorem dJ6_getChars_ba4f3_106 : decode cJ6_getChars_ba4f3 106 = .ok (.ifCond .eq 12, 3) := by decide +kernel
theorem dJ6_getChars_ba4f3_109 : decode cJ6_getChars_ba4f3 109 = .ok (.aload_n 2, 1) := by decide +kernel
theorem dJ6_getChars_ba4f3_110 : decode cJ6_getChars_ba4f3 110 = .ok (.iinc 5 (-1), 3) := by decide +kernel
theorem dJ6_getChars_ba4f3_113 : decode cJ6_getChars_ba4f3 113 = .ok (.iload 5, 2) := by decide +kernel
theorem dJ6_getChars_ba4f3_115 : decode cJ6_getChars_ba4f3 115 = .ok (.bipush 45, 2) := by decide +kernel
theorem dJ6_getChars_ba4f3_117 : decode cJ6_getChars_ba4f3 117 = .ok (.bastore, 1) := by decide +kernel
theorem dJ6_getChars_ba4f3_118 : decode cJ6_getChars_ba4f3 118 = .ok (.iload 5, 2) := by decide +kernel
theorem dJ6_getChars_ba4f3_120 : decode cJ6_getChars_ba4f3 120 = .ok (.ireturn, 1) := by decide +kernel
theorem dJ6_stringSize_0f7a4_0 : decode cJ6_stringSize_0f7a4 0 = .ok (.iconst 1, 1) := by decide +kernel
theorem dJ6_stringSize_0f7a4_1 : decode cJ6_stringSize_0f7a4 1 = .ok (.istore_n 1, 1) := by decide +kernel
theorem dJ6_stringSize_0f7a4_2 : decode cJ6_stringSize_0f7a4 2 = .ok (.iload_n 0, 1) := by decide +kernel
theorem dJ6_stringSize_0f7a4_3 : decode cJ6_stringSize_0f7a4 3 = .ok (.ifCond .lt 8, 3) := by decide +kernel
theorem dJ6_stringSize_0f7a4_6 : decode cJ6_stringSize_0f7a4 6 = .ok (.iconst 0, 1) := by decide +kernel
theorem dJ6_stringSize_0f7a4_7 : decode cJ6_stringSize_0f7a4 7 = .ok (.istore_n 1, 1) := by decide +kernel
theorem dJ6_stringSize_0f7a4_8 : decode cJ6_stringSize_0f7a4 8 = .ok (.iload_n 0, 1) := by decide +kernel
theorem dJ6_stringSize_0f7a4_9 : decode cJ6_stringSize_0f7a4 9 = .ok (.ineg, 1) := by decide +kernel
theorem dJ6_stringSize_0f7a4_10 : decode cJ6_stringSize_0f7a4 10 = .ok (.istore_n 0, 1) := by decide +kernel
theorem dJ6_stringSize_0f7a4_11 : decode cJ6_stringSize_0f7a4 11 = .ok (.bipush (-10), 2) := by decide +kernel
theorem dJ6_stringSize_0f7a4_13 : decode cJ6_stringSize_0f7a4 13 = .ok (.istore_n 2, 1) := by decide +kernel
theorem dJ6_stringSize_0f7a4_14 : decode cJ6_stringSize_0f7a4 14 = .ok (.iconst 1, 1) := by decide +kernel
theorem dJ6_stringSize_0f7a4_15 : decode cJ6_stringSize_0f7a4 15 = .ok (.istore_n 3, 1) := by decide +kernel
theorem dJ6_stringSize_0f7a4_16 : decode cJ6_stringSize_0f7a4 16 = .ok (.iload_n 3, 1) := by decide +kernel
theorem dJ6_stringSize_0f7a4_17 : decode cJ6_stringSize_0f7a4 17 = .ok (.bipush 10, 2) := by decide +kernel
theorem dJ6_stringSize_0f7a4_19 : decode cJ6_stringSize_0f7a4 19 = .ok (.if_icmp .ge 23, 3) := by decide +kernel
theorem dJ6_stringSize_0f7a4_22 : decode cJ6_stringSize_0f7a4 22 = .ok (.iload_n 0, 1) := by decide +kernel
theorem dJ6_stringSize_0f7a4_23 : decode cJ6_stringSize_0f7a4 23 = .ok (.iload_n 2, 1) := by decide +kernel
theorem dJ6_stringSize_0f7a4_24 : decode cJ6_stringSize_0f7a4 24 = .ok (.if_icmp .le 7, 3) := by decide +kernel
theorem dJ6_stringSize_0f7a4_27 : decode cJ6_stringSize_0f7a4 27 = .ok (.iload_n 3, 1) := by decide +kernel
theorem dJ6_stringSize_0f7a4_28 : decode cJ6_stringSize_0f7a4 28 = .ok (.iload_n 1, 1) := by decide +kernel
theorem dJ6_stringSize_0f7a4_29 : decode cJ6_stringSize_0f7a4 29 = .ok (.iadd, 1) := by decide +kernel
theorem dJ6_stringSize_0f7a4_30 : decode cJ6_stringSize_0f7a4 30 = .ok (.ireturn, 1) := by decide +kernel
theorem dJ6_stringSize_0f7a4_31 : decode cJ6_stringSize_0f7a4 31 = .ok (.bipush 10, 2) := by decide +kernel
theorem dJ6_stringSize_0f7a4_33 : decode cJ6_stringSize_0f7a4 33 = .ok (.iload_n 2, 1) := by decide +kernel
theorem dJ6_stringSize_0f7a4_34 : decode cJ6_stringSize_0f7a4 34 = .ok (.imul, 1) := by decide +kernel
theorem dJ6_stringSize_0f7a4_35 : decode cJ6_stringSize_0f7a4 35 = .ok (.istore_n 2, 1) := by decide +kernel
theorem dJ6_stringSize_0f7a4_36 : decode cJ6_stringSize_0f7a4 36 = .ok (.iinc 3 1, 3) := by decide +kernel
theorem dJ6_stringSize_0f7a4_39 : decode cJ6_stringSize_0f7a4 39 = .ok (.goto (-23), 3) := by decide +kernel
theorem dJ6_stringSize_0f7a4_42 : decode cJ6_stringSize_0f7a4 42 = .ok (.bipush 10, 2) := by decide +kernel
theorem dJ6_stringSize_0f7a4_44 : decode cJ6_stringSize_0f7a4 44 = .ok (.iload_n 1, 1) := by decide +kernel
theorem dJ6_stringSize_0f7a4_45 : decode cJ6_stringSize_0f7a4 45 = .ok (.iadd, 1) := by decide +kernel
theorem dJ6_stringSize_0f7a4_46 : decode cJ6_stringSize_0f7a4 46 = .ok (.ireturn, 1) := by decide +kernel
theorem dJ0_init_81219_0 : decode cJ0_init_81219 0 = .ok (.aload_n 0, 1) := by decide +kernel
theorem dJ0_init_81219_1 : decode cJ0_init_81219 1 = .ok (.aload_n 1, 1) := by decide +kernel
theorem dJ0_init_81219_2 : decode cJ0_init_81219 2 = .ok (.aconst_null, 1) := by decide +kernel
theorem dJ0_init_81219_3 : decode cJ0_init_81219 3 = .ok (.invokespecial 489, 3) := by decide +kernel
theorem dJ0_init_81219_6 : decode cJ0_init_81219 6 = .ok (.return_, 1) := by decide +kernel
theorem dJ0_init_db425_0 : decode cJ0_init_db425 0 = .ok (.aload_n 0, 1) := by decide +kernel
theorem dJ0_init_db425_1 : decode cJ0_init_db425 1 = .ok (.invokespecial 1, 3) := by decide +kernel
theorem dJ0_init_db425_4 : decode cJ0_init_db425 4 = .ok (.aload_n 1, 1) := by decide +kernel
theorem dJ0_init_db425_5 : decode cJ0_init_db425 5 = .ok (.invokevirtual 552, 3) := by decide +kernel
theorem dJ0_init_db425_8 : decode cJ0_init_db425 8 = .ok (.astore_n 3, 1) := by decide +kernel
theorem dJ0_init_db425_9 : decode cJ0_init_db425 9 = .ok (.aload_n 1, 1) := by decide +kernel
theorem dJ0_init_db425_10 : decode cJ0_init_db425 10 = .ok (.invokevirtual 549, 3) := by decide +kernel
theorem dJ0_init_db425_13 : decode cJ0_init_db425 13 = .ok (.istore 4, 2) := by decide +kernel
theorem dJ0_init_db425_15 : decode cJ0_init_db425 15 = .ok (.aload_n 1, 1) := by decide +kernel
theorem dJ0_init_db425_16 : decode cJ0_init_db425 16 = .ok (.invokevirtual 1047, 3) := by decide +kernel
theorem dJ0_init_db425_19 : decode cJ0_init_db425 19 = .ok (.ifCond .eq 22, 3) := by decide +kernel
theorem dJ0_init_db425_22 : decode cJ0_init_db425 22 = .ok (.aload_n 0, 1) := by decide +kernel
theorem dJ0_init_db425_23 : decode cJ0_init_db425 23 = .ok (.iconst 0, 1) := by decide +kernel
theorem dJ0_init_db425_24 : decode cJ0_init_db425 24 = .ok (.putfield 15, 3) := by decide +kernel
theorem dJ0_init_db425_27 : decode cJ0_init_db425 27 = .ok (.aload_n 0, 1) := by decide +kernel
theorem dJ0_init_db425_28 : decode cJ0_init_db425 28 = .ok (.aload_n 3, 1) := by decide +kernel
theorem dJ0_init_db425_29 : decode cJ0_init_db425 29 = .ok (.iconst 0, 1) := by decide +kernel
theorem dJ0_init_db425_30 : decode cJ0_init_db425 30 = .ok (.iload 4, 2) := by decide +kernel
theorem dJ0_init_db425_32 : decode cJ0_init_db425 32 = .ok (.invokestatic 54, 3) := by decide +kernel
theorem dJ0_init_db425_35 : decode cJ0_init_db425 35 = .ok (.putfield 9, 3) := by decide +kernel
theorem dJ0_init_db425_38 : decode cJ0_init_db425 38 = .ok (.goto 59, 3) := by decide +kernel
theorem dJ0_init_db425_41 : decode cJ0_init_db425 41 = .ok (.getstatic 38, 3) := by decide +kernel
theorem dJ0_init_db425_44 : decode cJ0_init_db425 44 = .ok (.ifCond .eq 35, 3) := by decide +kernel
theorem dJ0_init_db425_47 : decode cJ0_init_db425 47 = .ok (.aload_n 1, 1) := by decide +kernel
theorem dJ0_init_db425_48 : decode cJ0_init_db425 48 = .ok (.getfield 1048, 3) := by decide +kernel
theorem dJ0_init_db425_51 : decode cJ0_init_db425 51 = .ok (.ifCond .eq 28, 3) := by decide +kernel
theorem dJ0_init_db425_54 : decode cJ0_init_db425 54 = .ok (.aload_n 0, 1) := by decide +kernel
theorem dJ0_init_db425_55 : decode cJ0_init_db425 55 = .ok (.aload_n 3, 1) := by decide +kernel
theorem dJ0_init_db425_56 : decode cJ0_init_db425 56 = .ok (.iconst 0, 1) := by decide +kernel
theorem dJ0_init_db425_57 : decode cJ0_init_db425 57 = .ok (.iload 4, 2) := by decide +kernel
theorem dJ0_init_db425_59 : decode cJ0_init_db425 59 = .ok (.invokestatic 1051, 3) := by decide +kernel
theorem dJ0_init_db425_62 : decode cJ0_init_db425 62 = .ok (.putfield 9, 3) := by decide +kernel
theorem dJ0_init_db425_65 : decode cJ0_init_db425 65 = .ok (.aload_n 0, 1) := by decide +kernel
theorem dJ0_init_db425_66 : decode cJ0_init_db425 66 = .ok (.aload_n 0, 1) := by decide +kernel
theorem dJ0_init_db425_67 : decode cJ0_init_db425 67 = .ok (.getfield 9, 3) := by decide +kernel
theorem dJ0_init_db425_70 : decode cJ0_init_db425 70 = .ok (.iload 4, 2) := by decide +kernel
theorem dJ0_init_db425_72 : decode cJ0_init_db425 72 = .ok (.invokestatic 47, 3) := by decide +kernel
theorem dJ0_init_db425_75 : decode cJ0_init_db425 75 = .ok (.putfield 15, 3) := by decide +kernel
theorem dJ0_init_db425_78 : decode cJ0_init_db425 78 = .ok (.return_, 1) := by decide +kernel
theorem dJ0_init_db425_79 : decode cJ0_init_db425 79 = .ok (.aload_n 0, 1) := by decide +kernel
theorem dJ0_init_db425_80 : decode cJ0_init_db425 80 = .ok (.iconst 1, 1) := by decide +kernel
theorem dJ0_init_db425_81 : decode cJ0_init_db425 81 = .ok (.putfield 15, 3) := by decide +kernel
theorem dJ0_init_db425_84 : decode cJ0_init_db425 84 = .ok (.aload_n 0, 1) := by decide +kernel
theorem dJ0_init_db425_85 : decode cJ0_init_db425 85 = .ok (.aload_n 3, 1) := by decide +kernel
theorem dJ0_init_db425_86 : decode cJ0_init_db425 86 = .ok (.iconst 0, 1) := by decide +kernel
theorem dJ0_init_db425_87 : decode cJ0_init_db425 87 = .ok (.iload 4, 2) := by decide +kernel
theorem dJ0_init_db425_89 : decode cJ0_init_db425 89 = .ok (.iconst 1, 1) := by decide +kernel
theorem dJ0_init_db425_90 : decode cJ0_init_db425 90 = .ok (.ishl, 1) := by decide +kernel
theorem dJ0_init_db425_91 : decode cJ0_init_db425 91 = .ok (.invokestatic 54, 3) := by decide +kernel
theorem dJ0_init_db425_94 : decode cJ0_init_db425 94 = .ok (.putfield 9, 3) := by decide +kernel
theorem dJ0_init_db425_97 : decode cJ0_init_db425 97 = .ok (.return_, 1) := by decide +kernel
theorem dJ0_equals_9ea2d_0 : decode cJ0_equals_9ea2d 0 = .ok (.aload_n 0, 1) := by decide +kernel
theorem dJ0_equals_9ea2d_1 : decode cJ0_equals_9ea2d 1 = .ok (.aload_n 1, 1) := by decide +kernel
theorem dJ0_equals_9ea2d_2 : decode cJ0_equals_9ea2d 2 = .ok (.if_acmp .ne 5, 3) := by decide +kernel
theorem dJ0_equals_9ea2d_5 : decode cJ0_equals_9ea2d 5 = .ok (.iconst 1, 1) := by decide +kernel
theorem dJ0_equals_9ea2d_6 : decode cJ0_equals_9ea2d 6 = .ok (.ireturn, 1) := by decide +kernel
theorem dJ0_equals_9ea2d_7 : decode cJ0_equals_9ea2d 7 = .ok (.aload_n 1, 1) := by decide +kernel
theorem dJ0_equals_9ea2d_8 : decode cJ0_equals_9ea2d 8 = .ok (.instanceof 10, 3) := by decide +kernel
theorem dJ0_equals_9ea2d_11 : decode cJ0_equals_9ea2d 11 = .ok (.ifCond .eq 43, 3) := by decide +kernel
theorem dJ0_equals_9ea2d_14 : decode cJ0_equals_9ea2d 14 = .ok (.aload_n 1, 1) := by decide +kernel
theorem dJ0_equals_9ea2d_15 : decode cJ0_equals_9ea2d 15 = .ok (.checkcast 10, 3) := by decide +kernel
theorem dJ0_equals_9ea2d_18 : decode cJ0_equals_9ea2d 18 = .ok (.astore_n 2, 1) := by decide +kernel
theorem dJ0_equals_9ea2d_19 : decode cJ0_equals_9ea2d 19 = .ok (.getstatic 38, 3) := by decide +kernel
theorem dJ0_equals_9ea2d_22 : decode cJ0_equals_9ea2d 22 = .ok (.ifCond .eq 14, 3) := by decide +kernel
theorem dJ0_equals_9ea2d_25 : decode cJ0_equals_9ea2d 25 = .ok (.aload_n 0, 1) := by decide +kernel
theorem dJ0_equals_9ea2d_26 : decode cJ0_equals_9ea2d 26 = .ok (.getfield 15, 3) := by decide +kernel
theorem dJ0_equals_9ea2d_29 : decode cJ0_equals_9ea2d 29 = .ok (.aload_n 2, 1) := by decide +kernel
theorem dJ0_equals_9ea2d_30 : decode cJ0_equals_9ea2d 30 = .ok (.getfield 15, 3) := by decide +kernel
theorem dJ0_equals_9ea2d_33 : decode cJ0_equals_9ea2d 33 = .ok (.if_icmp .ne 21, 3) := by decide +kernel
theorem dJ0_equals_9ea2d_36 : decode cJ0_equals_9ea2d 36 = .ok (.aload_n 0, 1) := by decide +kernel
theorem dJ0_equals_9ea2d_37 : decode cJ0_equals_9ea2d 37 = .ok (.getfield 9, 3) := by decide +kernel
theorem dJ0_equals_9ea2d_40 : decode cJ0_equals_9ea2d 40 = .ok (.aload_n 2, 1) := by decide +kernel
theorem dJ0_equals_9ea2d_41 : decode cJ0_equals_9ea2d 41 = .ok (.getfield 9, 3) := by decide +kernel
theorem dJ0_equals_9ea2d_44 : decode cJ0_equals_9ea2d 44 = .ok (.invokestatic 541, 3) := by decide +kernel
theorem dJ0_equals_9ea2d_47 : decode cJ0_equals_9ea2d 47 = .ok (.ifCond .eq 7, 3) := by decide +kernel
theorem dJ0_equals_9ea2d_50 : decode cJ0_equals_9ea2d 50 = .ok (.iconst 1, 1) := by decide +kernel
theorem dJ0_equals_9ea2d_51 : decode cJ0_equals_9ea2d 51 = .ok (.goto 4, 3) := by decide +kernel
theorem dJ0_equals_9ea2d_54 : decode cJ0_equals_9ea2d 54 = .ok (.iconst 0, 1) := by decide +kernel
theorem dJ0_equals_9ea2d_55 : decode cJ0_equals_9ea2d 55 = .ok (.ireturn, 1) := by decide +kernel
theorem dJ0_getBytes_840e7_0 : decode cJ0_getBytes_840e7 0 = .ok (.aload_n 0, 1) := by decide +kernel
theorem dJ0_getBytes_840e7_1 : decode cJ0_getBytes_840e7 1 = .ok (.invokevirtual 335, 3) := by decide +kernel
theorem dJ0_getBytes_840e7_4 : decode cJ0_getBytes_840e7 4 = .ok (.iload_n 3, 1) := by decide +kernel
theorem dJ0_getBytes_840e7_5 : decode cJ0_getBytes_840e7 5 = .ok (.if_icmp .ne 23, 3) := by decide +kernel
theorem dJ0_getBytes_840e7_8 : decode cJ0_getBytes_840e7 8 = .ok (.aload_n 0, 1) := by decide +kernel
theorem dJ0_getBytes_840e7_9 : decode cJ0_getBytes_840e7 9 = .ok (.getfield 9, 3) := by decide +kernel
theorem dJ0_getBytes_840e7_12 : decode cJ0_getBytes_840e7 12 = .ok (.iconst 0, 1) := by decide +kernel
theorem dJ0_getBytes_840e7_13 : decode cJ0_getBytes_840e7 13 = .ok (.aload_n 1, 1) := by decide +kernel
theorem dJ0_getBytes_840e7_14 : decode cJ0_getBytes_840e7 14 = .ok (.iload_n 2, 1) := by decide +kernel
theorem dJ0_getBytes_840e7_15 : decode cJ0_getBytes_840e7 15 = .ok (.iload_n 3, 1) := by decide +kernel
theorem dJ0_getBytes_840e7_16 : decode cJ0_getBytes_840e7 16 = .ok (.ishl, 1) := by decide +kernel
theorem dJ0_getBytes_840e7_17 : decode cJ0_getBytes_840e7 17 = .ok (.aload_n 0, 1) := by decide +kernel
theorem dJ0_getBytes_840e7_18 : decode cJ0_getBytes_840e7 18 = .ok (.getfield 9, 3) := by decide +kernel
theorem dJ0_getBytes_840e7_21 : decode cJ0_getBytes_840e7 21 = .ok (.arraylength, 1) := by decide +kernel
theorem dJ0_getBytes_840e7_22 : decode cJ0_getBytes_840e7 22 = .ok (.invokestatic 212, 3) := by decide +kernel
theorem dJ0_getBytes_840e7_25 : decode cJ0_getBytes_840e7 25 = .ok (.goto 18, 3) := by decide +kernel
theorem dJ0_getBytes_840e7_28 : decode cJ0_getBytes_840e7 28 = .ok (.aload_n 0, 1) := by decide +kernel
theorem dJ0_getBytes_840e7_29 : decode cJ0_getBytes_840e7 29 = .ok (.getfield 9, 3) := by decide +kernel
theorem dJ0_getBytes_840e7_32 : decode cJ0_getBytes_840e7 32 = .ok (.iconst 0, 1) := by decide +kernel
theorem dJ0_getBytes_840e7_33 : decode cJ0_getBytes_840e7 33 = .ok (.aload_n 1, 1) := by decide +kernel
theorem dJ0_getBytes_840e7_34 : decode cJ0_getBytes_840e7 34 = .ok (.iload_n 2, 1) := by decide +kernel
theorem dJ0_getBytes_840e7_35 : decode cJ0_getBytes_840e7 35 = .ok (.aload_n 0, 1) := by decide +kernel
theorem dJ0_getBytes_840e7_36 : decode cJ0_getBytes_840e7 36 = .ok (.getfield 9, 3) := by decide +kernel
theorem dJ0_getBytes_840e7_39 : decode cJ0_getBytes_840e7 39 = .ok (.arraylength, 1) := by decide +kernel
theorem dJ0_getBytes_840e7_40 : decode cJ0_getBytes_840e7 40 = .ok (.invokestatic 106, 3) := by decide +kernel
theorem dJ0_getBytes_840e7_43 : decode cJ0_getBytes_840e7 43 = .ok (.return_, 1) := by decide +kernel
theorem dJ1_canEncode_fc78d_0 : decode cJ1_canEncode_fc78d 0 = .ok (.iload_n 0, 1) := by decide +kernel
theorem dJ1_canEncode_fc78d_1 : decode cJ1_canEncode_fc78d 1 = .ok (.sipush 255, 3) := by decide +kernel
theorem dJ1_canEncode_fc78d_4 : decode cJ1_canEncode_fc78d 4 = .ok (.if_icmp .gt 7, 3) := by decide +kernel
theorem dJ1_canEncode_fc78d_7 : decode cJ1_canEncode_fc78d 7 = .ok (.iconst 1, 1) := by decide +kernel
theorem dJ1_canEncode_fc78d_8 : decode cJ1_canEncode_fc78d 8 = .ok (.goto 4, 3) := by decide +kernel
theorem dJ1_canEncode_fc78d_11 : decode cJ1_canEncode_fc78d 11 = .ok (.iconst 0, 1) := by decide +kernel
theorem dJ1_canEncode_fc78d_12 : decode cJ1_canEncode_fc78d 12 = .ok (.ireturn, 1) := by decide +kernel
theorem dJ1_equals_b5fdf_0 : decode cJ1_equals_b5fdf 0 = .ok (.aload_n 0, 1) := by decide +kernel
theorem dJ1_equals_b5fdf_1 : decode cJ1_equals_b5fdf 1 = .ok (.arraylength, 1) := by decide +kernel
theorem dJ1_equals_b5fdf_2 : decode cJ1_equals_b5fdf 2 = .ok (.aload_n 1, 1) := by decide +kernel
theorem dJ1_equals_b5fdf_3 : decode cJ1_equals_b5fdf 3 = .ok (.arraylength, 1) := by decide +kernel
theorem dJ1_equals_b5fdf_4 : decode cJ1_equals_b5fdf 4 = .ok (.if_icmp .ne 30, 3) := by decide +kernel
theorem dJ1_equals_b5fdf_7 : decode cJ1_equals_b5fdf 7 = .ok (.iconst 0, 1) := by decide +kernel
theorem dJ1_equals_b5fdf_8 : decode cJ1_equals_b5fdf 8 = .ok (.istore_n 2, 1) := by decide +kernel
theorem dJ1_equals_b5fdf_9 : decode cJ1_equals_b5fdf 9 = .ok (.iload_n 2, 1) := by decide +kernel
theorem dJ1_equals_b5fdf_10 : decode cJ1_equals_b5fdf 10 = .ok (.aload_n 0, 1) := by decide +kernel
theorem dJ1_equals_b5fdf_11 : decode cJ1_equals_b5fdf 11 = .ok (.arraylength, 1) := by decide +kernel
theorem dJ1_equals_b5fdf_12 : decode cJ1_equals_b5fdf 12 = .ok (.if_icmp .ge 20, 3) := by decide +kernel
theorem dJ1_equals_b5fdf_15 : decode cJ1_equals_b5fdf 15 = .ok (.aload_n 0, 1) := by decide +kernel
theorem dJ1_equals_b5fdf_16 : decode cJ1_equals_b5fdf 16 = .ok (.iload_n 2, 1) := by decide +kernel
theorem dJ1_equals_b5fdf_17 : decode cJ1_equals_b5fdf 17 = .ok (.baload, 1) := by decide +kernel
theorem dJ1_equals_b5fdf_18 : decode cJ1_equals_b5fdf 18 = .ok (.aload_n 1, 1) := by decide +kernel
theorem dJ1_equals_b5fdf_19 : decode cJ1_equals_b5fdf 19 = .ok (.iload_n 2, 1) := by decide +kernel
theorem dJ1_equals_b5fdf_20 : decode cJ1_equals_b5fdf 20 = .ok (.baload, 1) := by decide +kernel
theorem dJ1_equals_b5fdf_21 : decode cJ1_equals_b5fdf 21 = .ok (.if_icmp .eq 5, 3) := by decide +kernel
theorem dJ1_equals_b5fdf_24 : decode cJ1_equals_b5fdf 24 = .ok (.iconst 0, 1) := by decide +kernel
theorem dJ1_equals_b5fdf_25 : decode cJ1_equals_b5fdf 25 = .ok (.ireturn, 1) := by decide +kernel
theorem dJ1_equals_b5fdf_26 : decode cJ1_equals_b5fdf 26 = .ok (.iinc 2 1, 3) := by decide +kernel
theorem dJ1_equals_b5fdf_29 : decode cJ1_equals_b5fdf 29 = .ok (.goto (-20), 3) := by decide +kernel
theorem dJ1_equals_b5fdf_32 : decode cJ1_equals_b5fdf 32 = .ok (.iconst 1, 1) := by decide +kernel
theorem dJ1_equals_b5fdf_33 : decode cJ1_equals_b5fdf 33 = .ok (.ireturn, 1) := by decide +kernel
theorem dJ1_equals_b5fdf_34 : decode cJ1_equals_b5fdf 34 = .ok (.iconst 0, 1) := by decide +kernel
theorem dJ1_equals_b5fdf_35 : decode cJ1_equals_b5fdf 35 = .ok (.ireturn, 1) := by decide +kernel
theorem dJ7_copyOf_9075b_0 : decode cJ7_copyOf_9075b 0 = .ok (.iload_n 1, 1) := by decide +kernel
theorem dJ7_copyOf_9075b_1 : decode cJ7_copyOf_9075b 1 = .ok (.aload_n 0, 1) := by decide +kernel
theorem dJ7_copyOf_9075b_2 : decode cJ7_copyOf_9075b 2 = .ok (.arraylength, 1) := by decide +kernel
theorem dJ7_copyOf_9075b_3 : decode cJ7_copyOf_9075b 3 = .ok (.if_icmp .ne 11, 3) := by decide +kernel
theorem dJ7_copyOf_9075b_6 : decode cJ7_copyOf_9075b 6 = .ok (.aload_n 0, 1) := by decide +kernel
theorem dJ7_copyOf_9075b_7 : decode cJ7_copyOf_9075b 7 = .ok (.invokevirtual 310, 3) := by decide +kernel
theorem dJ7_copyOf_9075b_10 : decode cJ7_copyOf_9075b 10 = .ok (.checkcast 311, 3) := by decide +kernel
theorem dJ7_copyOf_9075b_13 : decode cJ7_copyOf_9075b 13 = .ok (.areturn, 1) := by decide +kernel
theorem dJ7_copyOf_9075b_14 : decode cJ7_copyOf_9075b 14 = .ok (.iload_n 1, 1) := by decide +kernel
theorem dJ7_copyOf_9075b_15 : decode cJ7_copyOf_9075b 15 = .ok (.newarray .byte, 2) := by decide +kernel
theorem dJ7_copyOf_9075b_17 : decode cJ7_copyOf_9075b 17 = .ok (.astore_n 2, 1) := by decide +kernel
theorem dJ7_copyOf_9075b_18 : decode cJ7_copyOf_9075b 18 = .ok (.aload_n 0, 1) := by decide +kernel
theorem dJ7_copyOf_9075b_19 : decode cJ7_copyOf_9075b 19 = .ok (.iconst 0, 1) := by decide +kernel
theorem dJ7_copyOf_9075b_20 : decode cJ7_copyOf_9075b 20 = .ok (.aload_n 2, 1) := by decide +kernel
theorem dJ7_copyOf_9075b_21 : decode cJ7_copyOf_9075b 21 = .ok (.iconst 0, 1) := by decide +kernel
theorem dJ7_copyOf_9075b_22 : decode cJ7_copyOf_9075b 22 = .ok (.aload_n 0, 1) := by decide +kernel
theorem dJ7_copyOf_9075b_23 : decode cJ7_copyOf_9075b 23 = .ok (.arraylength, 1) := by decide +kernel
theorem dJ7_copyOf_9075b_24 : decode cJ7_copyOf_9075b 24 = .ok (.iload_n 1, 1) := by decide +kernel
theorem dJ7_copyOf_9075b_25 : decode cJ7_copyOf_9075b 25 = .ok (.invokestatic 304, 3) := by decide +kernel
theorem dJ7_copyOf_9075b_28 : decode cJ7_copyOf_9075b 28 = .ok (.invokestatic 150, 3) := by decide +kernel
theorem dJ7_copyOf_9075b_31 : decode cJ7_copyOf_9075b 31 = .ok (.aload_n 2, 1) := by decide +kernel
theorem dJ7_copyOf_9075b_32 : decode cJ7_copyOf_9075b 32 = .ok (.areturn, 1) := by decide +kernel
theorem dJ8_newLength_cabcc_0 : decode cJ8_newLength_cabcc 0 = .ok (.iload_n 0, 1) := by decide +kernel
theorem dJ8_newLength_cabcc_1 : decode cJ8_newLength_cabcc 1 = .ok (.iload_n 1, 1) := by decide +kernel
theorem dJ8_newLength_cabcc_2 : decode cJ8_newLength_cabcc 2 = .ok (.iload_n 2, 1) := by decide +kernel
theorem dJ8_newLength_cabcc_3 : decode cJ8_newLength_cabcc 3 = .ok (.invokestatic 194, 3) := by decide +kernel
theorem dJ8_newLength_cabcc_6 : decode cJ8_newLength_cabcc 6 = .ok (.iadd, 1) := by decide +kernel
theorem dJ8_newLength_cabcc_7 : decode cJ8_newLength_cabcc 7 = .ok (.istore_n 3, 1) := by decide +kernel
theorem dJ8_newLength_cabcc_8 : decode cJ8_newLength_cabcc 8 = .ok (.iconst 0, 1) := by decide +kernel
theorem dJ8_newLength_cabcc_9 : decode cJ8_newLength_cabcc 9 = .ok (.iload_n 3, 1) := by decide +kernel
theorem dJ8_newLength_cabcc_10 : decode cJ8_newLength_cabcc 10 = .ok (.if_icmp .ge 11, 3) := by decide +kernel
theorem dJ8_newLength_cabcc_13 : decode cJ8_newLength_cabcc 13 = .ok (.iload_n 3, 1) := by decide +kernel
theorem dJ8_newLength_cabcc_14 : decode cJ8_newLength_cabcc 14 = .ok (.ldc 200, 2) := by decide +kernel
theorem dJ8_newLength_cabcc_16 : decode cJ8_newLength_cabcc 16 = .ok (.if_icmp .gt 5, 3) := by decide +kernel
theorem dJ8_newLength_cabcc_19 : decode cJ8_newLength_cabcc 19 = .ok (.iload_n 3, 1) := by decide +kernel
theorem dJ8_newLength_cabcc_20 : decode cJ8_newLength_cabcc 20 = .ok (.ireturn, 1) := by decide +kernel
theorem dJ8_newLength_cabcc_21 : decode cJ8_newLength_cabcc 21 = .ok (.iload_n 0, 1) := by decide +kernel
theorem dJ8_newLength_cabcc_22 : decode cJ8_newLength_cabcc 22 = .ok (.iload_n 1, 1) := by decide +kernel
theorem dJ8_newLength_cabcc_23 : decode cJ8_newLength_cabcc 23 = .ok (.invokestatic 201, 3) := by decide +kernel
theorem dJ8_newLength_cabcc_26 : decode cJ8_newLength_cabcc 26 = .ok (.ireturn, 1) := by decide +kernel
def w_J4_init_da8c8 (l : Launch) (G : mv_G) (d : Nat) (u0 : Nat) (h : mv_H) (Q : mv_O → mv_H → Prop) : Prop :=
  mv_rq l G mJ5_init_d00df d 0 (mv_in [.ref u0, .int 16] 2) [] h (vU (fun E h1 => Q (.inr E) h1) (fun h3 =>
  Q (.inl none) h3))
theorem v_J4_init_da8c8 {l : Launch} {G : mv_G} {d : Nat} {u0 : Nat} {h : mv_H} {Q : mv_O → mv_H → Prop} (hG : mv_ok G) (hq : w_J4_init_da8c8 l G d u0 h Q) : mv_rq l G mJ4_init_da8c8 (d + 1) 0 (mv_in [.ref u0] 1) [] h Q := by
  unfold w_J4_init_da8c8 at hq
  show mv_rq l G mJ4_init_da8c8 (d + 1) 0 [some (.ref u0)] [] h _
  refine q_aload_n dJ4_init_da8c8_0 rfl ?_
  refine q_bipush (v := 16) dJ4_init_da8c8_1 (by decide) ?_
  refine q_cI (Y := mJ5_init_d00df) (As := [.int 16]) (st := []) (b := u0) ic_J5_init_d00df dJ4_init_da8c8_3 ml_RJ4_1 rfl (Nat.le_of_ble_eq_true rfl) rfl (Nat.le_of_ble_eq_true rfl) hq (fun v h1 hq1 => ?_) (fun E h1 hq1 => ?_)
  rotate_left
  ·
    rcases hq1 with hq1 | ⟨E1, e1, hq1⟩
    · exact nomatch hq1.1
    · obtain rfl := Sum.inr.inj e1; exact q_xout (fun z hz => nomatch hz) hq1
  rcases hq1 with hq1 | ⟨E1, e1, hq1⟩
  rotate_left
  · exact nomatch e1
  obtain ⟨hv, hq⟩ := hq1
  obtain rfl := Sum.inl.inj hv
  clear hv
  obtain ⟨h3, eh3⟩ : ∃ z, z = h1 := ⟨_, rfl⟩
  rw [← eh3] at hq ⊢
  clear eh3
  show mv_rq l G mJ4_init_da8c8 (d + 1) 6 [some (.ref u0)] [] h3 _
  exact q_vret dJ4_init_da8c8_6 rfl hq
def w_J4_append_15ec4 (l : Launch) (G : mv_G) (d : Nat) (u0 : Nat) (u1 : Nat) (h : mv_H) (Q : mv_O → mv_H → Prop) : Prop :=
  vob h u0 1 (
  mv_rq l G mJ5_append_cf1ce d 0 (mv_in [.ref u0, .ref u1] 3) [] h (vB (fun E h1 => Q (.inr E) h1) (fun x2 h2 =>
  Q (.inl (some (.ref u0))) h2)))
theorem v_J4_append_15ec4 {l : Launch} {G : mv_G} {d : Nat} {u0 : Nat} {u1 : Nat} {h : mv_H} {Q : mv_O → mv_H → Prop} (hG : mv_ok G) (hq : w_J4_append_15ec4 l G d u0 u1 h Q) : mv_rq l G mJ4_append_15ec4 (d + 1) 0 (mv_in [.ref u0, .ref u1] 2) [] h Q := by
  unfold w_J4_append_15ec4 at hq
  show mv_rq l G mJ4_append_15ec4 (d + 1) 0 [some (.ref u0), some (.ref u1)] [] h _
  refine q_aload_n dJ4_append_15ec4_0 rfl ?_
  refine q_aload_n dJ4_append_15ec4_1 rfl ?_
  obtain ⟨⟨fs2, f2⟩, hq⟩ := vob_e hq
  refine q_cU (Y := mJ5_append_cf1ce) (As := [.ref u1]) (st := []) (b := u0) (ci := 1) uc_J5_append_cf1ce dJ4_append_15ec4_2 ml_RJ4_29 rfl f2 rfl (Nat.le_of_ble_eq_true rfl) rfl (Nat.le_of_ble_eq_true rfl) hq (fun v h1 hq1 => ?_) (fun E h1 hq1 => ?_)
  rotate_left
  ·
    rcases hq1 with hq1 | ⟨E1, e1, hq1⟩
    · obtain ⟨_, z, _⟩ := hq1; exact nomatch z
    · obtain rfl := Sum.inr.inj e1; exact q_xout (fun z hz => nomatch hz) hq1
  rcases hq1 with hq1 | ⟨E1, e1, hq1⟩
  rotate_left
  · exact nomatch e1
  obtain ⟨x2, hv, hq⟩ := hq1
  obtain rfl := Sum.inl.inj hv
  clear hv
  obtain ⟨h2, eh2⟩ : ∃ z, z = h1 := ⟨_, rfl⟩
  rw [← eh2] at hq ⊢
  clear eh2
  show mv_rq l G mJ4_append_15ec4 (d + 1) 5 [some (.ref u0), some (.ref u1)] [.ref x2] h2 _
  refine q_pop dJ4_append_15ec4_5 rfl ?_
  refine q_aload_n dJ4_append_15ec4_6 rfl ?_
  exact q_aret (rt := (.object "java/lang/StringBuilder")) dJ4_append_15ec4_7 rfl (Or.inl ⟨_, rfl⟩) (Or.inr ⟨_, rfl⟩) hq
def w_J4_append_cf468 (l : Launch) (G : mv_G) (d : Nat) (u0 : Nat) (u1 : Int32) (h : mv_H) (Q : mv_O → mv_H → Prop) : Prop :=
  vob h u0 1 (
  mv_rq l G mJ5_append_3fe6f d 0 (mv_in [.ref u0, .int u1] 2) [] h (vB (fun E h1 => Q (.inr E) h1) (fun x2 h2 =>
  Q (.inl (some (.ref u0))) h2)))
theorem v_J4_append_cf468 {l : Launch} {G : mv_G} {d : Nat} {u0 : Nat} {u1 : Int32} {h : mv_H} {Q : mv_O → mv_H → Prop} (hG : mv_ok G) (hq : w_J4_append_cf468 l G d u0 u1 h Q) : mv_rq l G mJ4_append_cf468 (d + 1) 0 (mv_in [.ref u0, .int u1] 2) [] h Q := by
  unfold w_J4_append_cf468 at hq
  show mv_rq l G mJ4_append_cf468 (d + 1) 0 [some (.ref u0), some (.int u1)] [] h _
  refine q_aload_n dJ4_append_cf468_0 rfl ?_
  refine q_iload_n dJ4_append_cf468_1 rfl ?_
  obtain ⟨⟨fs2, f2⟩, hq⟩ := vob_e hq
  refine q_cU (Y := mJ5_append_3fe6f) (As := [.int u1]) (st := []) (b := u0) (ci := 1) uc_J5_append_3fe6f dJ4_append_cf468_2 ml_RJ4_50 rfl f2 rfl (Nat.le_of_ble_eq_true rfl) rfl (Nat.le_of_ble_eq_true rfl) hq (fun v h1 hq1 => ?_) (fun E h1 hq1 => ?_)
  rotate_left
  ·
    rcases hq1 with hq1 | ⟨E1, e1, hq1⟩
    · obtain ⟨_, z, _⟩ := hq1; exact nomatch z
    · obtain rfl := Sum.inr.inj e1; exact q_xout (fun z hz => nomatch hz) hq1
  rcases hq1 with hq1 | ⟨E1, e1, hq1⟩
  rotate_left
  · exact nomatch e1
  obtain ⟨x2, hv, hq⟩ := hq1
  obtain rfl := Sum.inl.inj hv
  clear hv
  obtain ⟨h2, eh2⟩ : ∃ z, z = h1 := ⟨_, rfl⟩
  rw [← eh2] at hq ⊢
  clear eh2
  show mv_rq l G mJ4_append_cf468 (d + 1) 5 [some (.ref u0), some (.int u1)] [.ref x2] h2 _
  refine q_pop dJ4_append_cf468_5 rfl ?_
  refine q_aload_n dJ4_append_cf468_6 rfl ?_
  exact q_aret (rt := (.object "java/lang/StringBuilder")) dJ4_append_cf468_7 rfl (Or.inl ⟨_, rfl⟩) (Or.inr ⟨_, rfl⟩) hq
def w_J4_append_bf812 (l : Launch) (G : mv_G) (d : Nat) (u0 : Nat) (u1 : Int32) (h : mv_H) (Q : mv_O → mv_H → Prop) : Prop :=
  vob h u0 1 (
  mv_rq l G mJ5_append_c97b9 d 0 (mv_in [.ref u0, .int u1] 4) [] h (vB (fun E h1 => Q (.inr E) h1) (fun x2 h2 =>
  Q (.inl (some (.ref u0))) h2)))
theorem v_J4_append_bf812 {l : Launch} {G : mv_G} {d : Nat} {u0 : Nat} {u1 : Int32} {h : mv_H} {Q : mv_O → mv_H → Prop} (hG : mv_ok G) (hq : w_J4_append_bf812 l G d u0 u1 h Q) : mv_rq l G mJ4_append_bf812 (d + 1) 0 (mv_in [.ref u0, .int u1] 2) [] h Q := by
  unfold w_J4_append_bf812 at hq
  show mv_rq l G mJ4_append_bf812 (d + 1) 0 [some (.ref u0), some (.int u1)] [] h _
  refine q_aload_n dJ4_append_bf812_0 rfl ?_
  refine q_iload_n dJ4_append_bf812_1 rfl ?_
  obtain ⟨⟨fs2, f2⟩, hq⟩ := vob_e hq
  refine q_cU (Y := mJ5_append_c97b9) (As := [.int u1]) (st := []) (b := u0) (ci := 1) uc_J5_append_c97b9 dJ4_append_bf812_2 ml_RJ4_53 rfl f2 rfl (Nat.le_of_ble_eq_true rfl) rfl (Nat.le_of_ble_eq_true rfl) hq (fun v h1 hq1 => ?_) (fun E h1 hq1 => ?_)
  rotate_left
  ·
    rcases hq1 with hq1 | ⟨E1, e1, hq1⟩
    · obtain ⟨_, z, _⟩ := hq1; exact nomatch z
    · obtain rfl := Sum.inr.inj e1; exact q_xout (fun z hz => nomatch hz) hq1
  rcases hq1 with hq1 | ⟨E1, e1, hq1⟩
  rotate_left
  · exact nomatch e1
  obtain ⟨x2, hv, hq⟩ := hq1
  obtain rfl := Sum.inl.inj hv
  clear hv
  obtain ⟨h2, eh2⟩ : ∃ z, z = h1 := ⟨_, rfl⟩
  rw [← eh2] at hq ⊢
  clear eh2
  show mv_rq l G mJ4_append_bf812 (d + 1) 5 [some (.ref u0), some (.int u1)] [.ref x2] h2 _
  refine q_pop dJ4_append_bf812_5 rfl ?_
  refine q_aload_n dJ4_append_bf812_6 rfl ?_
  exact q_aret (rt := (.object "java/lang/StringBuilder")) dJ4_append_bf812_7 rfl (Or.inl ⟨_, rfl⟩) (Or.inr ⟨_, rfl⟩) hq
def w_J4_toString_0e30d (l : Launch) (G : mv_G) (d : Nat) (u0 : Nat) (h : mv_H) (Q : mv_O → mv_H → Prop) : Prop :=
  vnw h 4 (.inr (0, [.null, .int 0, .int 0, .int 0])) fun a0 h0 =>
  mv_rq l G mJ0_init_81219 d 0 (mv_in [.ref a0, .ref u0] 2) [] h0 (vU (fun E h1 => Q (.inr E) h1) (fun h5 =>
  Q (.inl (some (.ref a0))) h5))
theorem v_J4_toString_0e30d {l : Launch} {G : mv_G} {d : Nat} {u0 : Nat} {h : mv_H} {Q : mv_O → mv_H → Prop} (hG : mv_ok G) (hq : w_J4_toString_0e30d l G d u0 h Q) : mv_rq l G mJ4_toString_0e30d (d + 1) 0 (mv_in [.ref u0] 1) [] h Q := by
  unfold w_J4_toString_0e30d at hq
  show mv_rq l G mJ4_toString_0e30d (d + 1) 0 [some (.ref u0)] [] h _
  obtain ⟨a0, h0, ea0, eh0, hq⟩ := vnw_e hq
  refine q_new (fs := [.null, .int 0, .int 0, .int 0]) (ci := 0) (T := TJ0) (N := 4) tyJ0 tyJ0_ok dJ4_toString_0e30d_0 cl_RJ4_18 inst_RJ0 init_RJ0 uin_RJ0 rfl (by decide) ?_
  rw [← eh0, ← ea0]
  show mv_rq l G mJ4_toString_0e30d (d + 1) 3 [some (.ref u0)] [.ref a0] h0 _
  refine q_dup dJ4_toString_0e30d_3 rfl ?_
  refine q_aload_n dJ4_toString_0e30d_4 rfl ?_
  refine q_cI (Y := mJ0_init_81219) (As := [.ref u0]) (st := [.ref a0]) (b := a0) ic_J0_init_81219 dJ4_toString_0e30d_5 ml_RJ4_137 rfl (Nat.le_of_ble_eq_true rfl) rfl (Nat.le_of_ble_eq_true rfl) hq (fun v h1 hq1 => ?_) (fun E h1 hq1 => ?_)
  rotate_left
  ·
    rcases hq1 with hq1 | ⟨E1, e1, hq1⟩
    · exact nomatch hq1.1
    · obtain rfl := Sum.inr.inj e1; exact q_xout (fun z hz => nomatch hz) hq1
  rcases hq1 with hq1 | ⟨E1, e1, hq1⟩
  rotate_left
  · exact nomatch e1
  obtain ⟨hv, hq⟩ := hq1
  obtain rfl := Sum.inl.inj hv
  clear hv
  obtain ⟨h5, eh5⟩ : ∃ z, z = h1 := ⟨_, rfl⟩
  rw [← eh5] at hq ⊢
  clear eh5
  show mv_rq l G mJ4_toString_0e30d (d + 1) 8 [some (.ref u0)] [.ref a0] h5 _
  exact q_aret (rt := (.object "java/lang/String")) dJ4_toString_0e30d_8 rfl (Or.inl ⟨_, rfl⟩) (Or.inr ⟨_, rfl⟩) hq
def w_J4_charAt_5068e (l : Launch) (G : mv_G) (d : Nat) (u0 : Nat) (u1 : Int32) (h : mv_H) (Q : mv_O → mv_H → Prop) : Prop :=
  vob h u0 1 (
  mv_rq l G mJ5_charAt_5068e d 0 (mv_in [.ref u0, .int u1] 5) [] h (vI (fun E h1 => Q (.inr E) h1) (fun x2 h2 =>
  narrow .char (.int x2) = .int x2 ∧
  Q (.inl (some (.int x2))) h2)))
theorem v_J4_charAt_5068e {l : Launch} {G : mv_G} {d : Nat} {u0 : Nat} {u1 : Int32} {h : mv_H} {Q : mv_O → mv_H → Prop} (hG : mv_ok G) (hq : w_J4_charAt_5068e l G d u0 u1 h Q) : mv_rq l G mJ4_charAt_5068e (d + 1) 0 (mv_in [.ref u0, .int u1] 2) [] h Q := by
  unfold w_J4_charAt_5068e at hq
  show mv_rq l G mJ4_charAt_5068e (d + 1) 0 [some (.ref u0), some (.int u1)] [] h _
  refine q_aload_n dJ4_charAt_5068e_0 rfl ?_
  refine q_iload_n dJ4_charAt_5068e_1 rfl ?_
  obtain ⟨⟨fs2, f2⟩, hq⟩ := vob_e hq
  refine q_cU (Y := mJ5_charAt_5068e) (As := [.int u1]) (st := []) (b := u0) (ci := 1) uc_J5_charAt_5068e dJ4_charAt_5068e_2 ml_RJ4_329 rfl f2 rfl (Nat.le_of_ble_eq_true rfl) rfl (Nat.le_of_ble_eq_true rfl) hq (fun v h1 hq1 => ?_) (fun E h1 hq1 => ?_)
  rotate_left
  ·
    rcases hq1 with hq1 | ⟨E1, e1, hq1⟩
    · obtain ⟨_, z, _⟩ := hq1; exact nomatch z
    · obtain rfl := Sum.inr.inj e1; exact q_xout (fun z hz => nomatch hz) hq1
  rcases hq1 with hq1 | ⟨E1, e1, hq1⟩
  rotate_left
  · exact nomatch e1
  obtain ⟨x2, hv, hq⟩ := hq1
  obtain rfl := Sum.inl.inj hv
  clear hv
  obtain ⟨h2, eh2⟩ : ∃ z, z = h1 := ⟨_, rfl⟩
  rw [← eh2] at hq ⊢
  clear eh2
  show mv_rq l G mJ4_charAt_5068e (d + 1) 5 [some (.ref u0), some (.int u1)] [.int x2] h2 _
  obtain ⟨nr5, hq⟩ := hq
  exact q_iret (ty := .char) dJ4_charAt_5068e_5 rfl nr5 hq
def w_J4_setLength_d00df (l : Launch) (G : mv_G) (d : Nat) (u0 : Nat) (u1 : Int32) (h : mv_H) (Q : mv_O → mv_H → Prop) : Prop :=
  vob h u0 1 (
  mv_rq l G mJ5_setLength_d00df d 0 (mv_in [.ref u0, .int u1] 2) [] h (vU (fun E h1 => Q (.inr E) h1) (fun h2 =>
  Q (.inl none) h2)))
theorem v_J4_setLength_d00df {l : Launch} {G : mv_G} {d : Nat} {u0 : Nat} {u1 : Int32} {h : mv_H} {Q : mv_O → mv_H → Prop} (hG : mv_ok G) (hq : w_J4_setLength_d00df l G d u0 u1 h Q) : mv_rq l G mJ4_setLength_d00df (d + 1) 0 (mv_in [.ref u0, .int u1] 2) [] h Q := by
  unfold w_J4_setLength_d00df at hq
  show mv_rq l G mJ4_setLength_d00df (d + 1) 0 [some (.ref u0), some (.int u1)] [] h _
  refine q_aload_n dJ4_setLength_d00df_0 rfl ?_
  refine q_iload_n dJ4_setLength_d00df_1 rfl ?_
  obtain ⟨⟨fs2, f2⟩, hq⟩ := vob_e hq
  refine q_cU (Y := mJ5_setLength_d00df) (As := [.int u1]) (st := []) (b := u0) (ci := 1) uc_J5_setLength_d00df dJ4_setLength_d00df_2 ml_RJ4_333 rfl f2 rfl (Nat.le_of_ble_eq_true rfl) rfl (Nat.le_of_ble_eq_true rfl) hq (fun v h1 hq1 => ?_) (fun E h1 hq1 => ?_)
  rotate_left
  ·
    rcases hq1 with hq1 | ⟨E1, e1, hq1⟩
    · exact nomatch hq1.1
    · obtain rfl := Sum.inr.inj e1; exact q_xout (fun z hz => nomatch hz) hq1
  rcases hq1 with hq1 | ⟨E1, e1, hq1⟩
  rotate_left
  · exact nomatch e1
  obtain ⟨hv, hq⟩ := hq1
  obtain rfl := Sum.inl.inj hv
  clear hv
  obtain ⟨h2, eh2⟩ : ∃ z, z = h1 := ⟨_, rfl⟩
  rw [← eh2] at hq ⊢
  clear eh2
  show mv_rq l G mJ4_setLength_d00df (d + 1) 5 [some (.ref u0), some (.int u1)] [] h2 _
  exact q_vret dJ4_setLength_d00df_5 rfl hq
def w_J4_length_8abf5 (l : Launch) (G : mv_G) (d : Nat) (u0 : Nat) (h : mv_H) (Q : mv_O → mv_H → Prop) : Prop :=
  vob h u0 1 (
  mv_rq l G mJ5_length_8abf5 d 0 (mv_in [.ref u0] 1) [] h (vI (fun E h1 => Q (.inr E) h1) (fun x1 h1 =>
  Q (.inl (some (.int x1))) h1)))
theorem v_J4_length_8abf5 {l : Launch} {G : mv_G} {d : Nat} {u0 : Nat} {h : mv_H} {Q : mv_O → mv_H → Prop} (hG : mv_ok G) (hq : w_J4_length_8abf5 l G d u0 h Q) : mv_rq l G mJ4_length_8abf5 (d + 1) 0 (mv_in [.ref u0] 1) [] h Q := by
  unfold w_J4_length_8abf5 at hq
  show mv_rq l G mJ4_length_8abf5 (d + 1) 0 [some (.ref u0)] [] h _
  refine q_aload_n dJ4_length_8abf5_0 rfl ?_
  obtain ⟨⟨fs1, f1⟩, hq⟩ := vob_e hq
  refine q_cU (Y := mJ5_length_8abf5) (As := []) (st := []) (b := u0) (ci := 1) uc_J5_length_8abf5 dJ4_length_8abf5_1 ml_RJ4_343 rfl f1 rfl (Nat.le_of_ble_eq_true rfl) rfl (Nat.le_of_ble_eq_true rfl) hq (fun v h1 hq1 => ?_) (fun E h1 hq1 => ?_)
  rotate_left
  ·
    rcases hq1 with hq1 | ⟨E1, e1, hq1⟩
    · obtain ⟨_, z, _⟩ := hq1; exact nomatch z
    · obtain rfl := Sum.inr.inj e1; exact q_xout (fun z hz => nomatch hz) hq1
  rcases hq1 with hq1 | ⟨E1, e1, hq1⟩
  rotate_left
  · exact nomatch e1
  obtain ⟨x1, hv, hq⟩ := hq1
  obtain rfl := Sum.inl.inj hv
  clear hv
  obtain ⟨h1, eh1⟩ : ∃ z, z = h1 := ⟨_, rfl⟩
  rw [← eh1] at hq ⊢
  clear eh1
  show mv_rq l G mJ4_length_8abf5 (d + 1) 4 [some (.ref u0)] [.int x1] h1 _
  exact q_iret (ty := .int) dJ4_length_8abf5_4 rfl rfl hq
def w_J5_init_d00df (l : Launch) (G : mv_G) (d : Nat) (u0 : Nat) (u1 : Int32) (h : mv_H) (Q : mv_O → mv_H → Prop) : Prop :=
  ¬ u1 < 0 ∧ u1.toNatClampNeg * 1 ≤ 536870912 ∧
  vnw h u1.toNatClampNeg (.inl (mv_t G 0, u1.toNatClampNeg, .inl (fun _ => 0))) fun a12 h12 =>
  vpu G h12 u0 1 0 (.ref a12) fun h14 =>
  vpu G h14 u0 1 1 (.int 0) fun h19 =>
  Q (.inl none) h19
theorem v_J5_init_d00df {l : Launch} {G : mv_G} {d : Nat} {u0 : Nat} {u1 : Int32} {h : mv_H} {Q : mv_O → mv_H → Prop} (hG : mv_ok G) (hq : w_J5_init_d00df l G d u0 u1 h Q) : mv_rq l G mJ5_init_d00df (d + 1) 0 (mv_in [.ref u0, .int u1] 2) [] h Q := by
  unfold w_J5_init_d00df at hq
  show mv_rq l G mJ5_init_d00df (d + 1) 0 [some (.ref u0), some (.int u1)] [] h _
  refine q_aload_n dJ5_init_d00df_0 rfl ?_
  refine q_objI dJ5_init_d00df_1 ml_RJ5_3 obj_in obj_co rfl (Nat.le_of_ble_eq_true rfl) ?_
  refine q_gets dJ5_init_d00df_4 fl_RJ5_18 rfl hG.2.1 ?_
  refine q_if_eq (tgt := 25) dJ5_init_d00df_7 (by decide) (fun z => absurd z (by decide)) (fun _ => ?_)
  refine q_aload_n dJ5_init_d00df_10 rfl ?_
  refine q_iload_n dJ5_init_d00df_11 rfl ?_
  obtain ⟨z12, y12, hq⟩ := hq
  obtain ⟨a12, h12, ea12, eh12, hq⟩ := vnw_e hq
  refine q_newa (t0 := 0) (N := u1.toNatClampNeg) (a0 := (u1.toNatClampNeg, .inl (fun _ => 0))) dJ5_init_d00df_12 rfl (fun _ z => nomatch z) arr_byte (mv_tB hG) rfl z12 rfl y12 ?_
  rw [← eh12, ← ea12]
  show mv_rq l G mJ5_init_d00df (d + 1) 14 [some (.ref u0), some (.int u1)] [.ref a12, .ref u0] h12 _
  obtain ⟨fs14, h14, f14, b14, l14, e14, hq⟩ := vpu_e hq
  refine q_putf (k := 0) (T := TJ4) (C0 := RJ4) (N := 4) (ci := 1) (ty := (.array .byte)) tyJ4 tyJ4_ok nmJ4 dJ5_init_d00df_14 fl_RJ5_15 rfl uin_RJ4 (by decide) rfl rfl (by decide +kernel) rfl rfl b14 f14 l14 ?_
  rw [← e14]
  show mv_rq l G mJ5_init_d00df (d + 1) 17 [some (.ref u0), some (.int u1)] [] h14 _
  refine q_aload_n dJ5_init_d00df_17 rfl ?_
  refine q_iconst (v := 0) dJ5_init_d00df_18 (by decide) ?_
  obtain ⟨fs19, h19, f19, b19, l19, e19, hq⟩ := vpu_e hq
  refine q_putf (k := 1) (T := TJ4) (C0 := RJ4) (N := 4) (ci := 1) (ty := .byte) tyJ4 tyJ4_ok nmJ4 dJ5_init_d00df_19 fl_RJ5_22 rfl uin_RJ4 (by decide) rfl rfl (by decide +kernel) rfl rfl b19 f19 l19 ?_
  rw [← e19]
  show mv_rq l G mJ5_init_d00df (d + 1) 22 [some (.ref u0), some (.int u1)] [] h19 _
  refine q_goto (tgt := 38) dJ5_init_d00df_22 (by decide) ?_
  exact q_vret dJ5_init_d00df_38 rfl hq
def w_J5_length_8abf5 (l : Launch) (G : mv_G) (d : Nat) (u0 : Nat) (h : mv_H) (Q : mv_O → mv_H → Prop) : Prop :=
  vgi h u0 1 3 fun x1 =>
  Q (.inl (some (.int x1))) h
theorem v_J5_length_8abf5 {l : Launch} {G : mv_G} {d : Nat} {u0 : Nat} {h : mv_H} {Q : mv_O → mv_H → Prop} (hG : mv_ok G) (hq : w_J5_length_8abf5 l G d u0 h Q) : mv_rq l G mJ5_length_8abf5 d 0 (mv_in [.ref u0] 1) [] h Q := by
  unfold w_J5_length_8abf5 at hq
  show mv_rq l G mJ5_length_8abf5 d 0 [some (.ref u0)] [] h _
  refine q_aload_n dJ5_length_8abf5_0 rfl ?_
  obtain ⟨fs1, x1, f1, g1, hq⟩ := vgi_e hq
  refine q_getf (k := 3) (T := TJ4) (C0 := RJ4) (N := 4) (ci := 1) dJ5_length_8abf5_1 fl_RJ5_79 rfl uin_RJ4 (by decide) rfl f1 g1 ?_
  exact q_iret (ty := .int) dJ5_length_8abf5_4 rfl rfl hq
def w_J5_ensureCapacityInternal_d00df (l : Launch) (G : mv_G) (d : Nat) (u0 : Nat) (u1 : Int32) (h : mv_H) (Q : mv_O → mv_H → Prop) : Prop :=
  vgb h u0 1 0 fun x1 =>
  vln G h x1 0 fun x4 =>
  vgi h u0 1 1 fun x6 =>
  vif ((u1 - (x4 >>> (x6 &&& 31))) ≤ 0) (
    Q (.inl none) h) (
    vgb h u0 1 0 fun x19 =>
    vob h u0 1 (
    mv_rq l G mJ5_newCapacity_0f7a4 d 0 (mv_in [.ref u0, .int u1] 6) [] h (vI (fun E h1 => Q (.inr E) h1) (fun x24 h24 =>
    vgi h24 u0 1 1 fun x28 =>
    mv_rq l G mJ7_copyOf_9075b d 0 (mv_in [.ref x19, .int (x24 <<< (x28 &&& 31))] 3) [] h24 (vB (fun E h1 => Q (.inr E) h1) (fun x32 h32 =>
    vpu G h32 u0 1 0 (.ref x32) fun h35 =>
    Q (.inl none) h35))))))
theorem v_J5_ensureCapacityInternal_d00df {l : Launch} {G : mv_G} {d : Nat} {u0 : Nat} {u1 : Int32} {h : mv_H} {Q : mv_O → mv_H → Prop} (hG : mv_ok G) (hq : w_J5_ensureCapacityInternal_d00df l G d u0 u1 h Q) : mv_rq l G mJ5_ensureCapacityInternal_d00df (d + 1) 0 (mv_in [.ref u0, .int u1] 3) [] h Q := by
  unfold w_J5_ensureCapacityInternal_d00df at hq
  show mv_rq l G mJ5_ensureCapacityInternal_d00df (d + 1) 0 [some (.ref u0), some (.int u1), none] [] h _
  refine q_aload_n dJ5_ensureCapacityInternal_d00df_0 rfl ?_
  obtain ⟨fs1, x1, f1, g1, hq⟩ := vgb_e hq
  refine q_getf (k := 0) (T := TJ4) (C0 := RJ4) (N := 4) (ci := 1) dJ5_ensureCapacityInternal_d00df_1 fl_RJ5_15 rfl uin_RJ4 (by decide) rfl f1 g1 ?_
  obtain ⟨y4, x4, g4, e4, hq⟩ := vln_e hq
  refine q_alen (t0 := 0) dJ5_ensureCapacityInternal_d00df_4 (mv_tB hG) g4 ?_
  rw [← e4]
  show mv_rq l G mJ5_ensureCapacityInternal_d00df (d + 1) 5 [some (.ref u0), some (.int u1), none] [.int x4] h _
  refine q_aload_n dJ5_ensureCapacityInternal_d00df_5 rfl ?_
  obtain ⟨fs6, x6, f6, g6, hq⟩ := vgi_e hq
  refine q_getf (k := 1) (T := TJ4) (C0 := RJ4) (N := 4) (ci := 1) dJ5_ensureCapacityInternal_d00df_6 fl_RJ5_22 rfl uin_RJ4 (by decide) rfl f6 g6 ?_
  refine q_ishr dJ5_ensureCapacityInternal_d00df_9 ?_
  refine q_istore_n dJ5_ensureCapacityInternal_d00df_10 (Nat.le_of_ble_eq_true rfl) rfl ?_
  show mv_rq l G mJ5_ensureCapacityInternal_d00df (d + 1) 11 [some (.ref u0), some (.int u1), some (.int (x4 >>> (x6 &&& 31)))] [] h _
  refine q_iload_n dJ5_ensureCapacityInternal_d00df_11 rfl ?_
  refine q_iload_n dJ5_ensureCapacityInternal_d00df_12 rfl ?_
  refine q_isub dJ5_ensureCapacityInternal_d00df_13 ?_
  refine q_if_le (tgt := 38) dJ5_ensureCapacityInternal_d00df_14 (by decide) (fun c14 => ?_) (fun c14 => ?_)
  ·
    have hq := vif_t hq c14
    exact q_vret dJ5_ensureCapacityInternal_d00df_38 rfl hq
  ·
    have hq := vif_f hq c14
    refine q_aload_n dJ5_ensureCapacityInternal_d00df_17 rfl ?_
    refine q_aload_n dJ5_ensureCapacityInternal_d00df_18 rfl ?_
    obtain ⟨fs19, x19, f19, g19, hq⟩ := vgb_e hq
    refine q_getf (k := 0) (T := TJ4) (C0 := RJ4) (N := 4) (ci := 1) dJ5_ensureCapacityInternal_d00df_19 fl_RJ5_15 rfl uin_RJ4 (by decide) rfl f19 g19 ?_
    refine q_aload_n dJ5_ensureCapacityInternal_d00df_22 rfl ?_
    refine q_iload_n dJ5_ensureCapacityInternal_d00df_23 rfl ?_
    obtain ⟨⟨fs24, f24⟩, hq⟩ := vob_e hq
    refine q_cP (Y := mJ5_newCapacity_0f7a4) (As := [.int u1]) (st := [.ref x19, .ref u0]) (b := u0) (ci := 1) pc_J5_newCapacity_0f7a4 dJ5_ensureCapacityInternal_d00df_24 ml_RJ5_104 rfl f24 rfl (Nat.le_of_ble_eq_true rfl) rfl (Nat.le_of_ble_eq_true rfl) hq (fun v h1 hq1 => ?_) (fun E h1 hq1 => ?_)
    rotate_left
    ·
      rcases hq1 with hq1 | ⟨E1, e1, hq1⟩
      · obtain ⟨_, z, _⟩ := hq1; exact nomatch z
      · obtain rfl := Sum.inr.inj e1; exact q_xout (fun z hz => nomatch hz) hq1
    rcases hq1 with hq1 | ⟨E1, e1, hq1⟩
    rotate_left
    · exact nomatch e1
    obtain ⟨x24, hv, hq⟩ := hq1
    obtain rfl := Sum.inl.inj hv
    clear hv
    obtain ⟨h24, eh24⟩ : ∃ z, z = h1 := ⟨_, rfl⟩
    rw [← eh24] at hq ⊢
    clear eh24
    show mv_rq l G mJ5_ensureCapacityInternal_d00df (d + 1) 27 [some (.ref u0), some (.int u1), some (.int (x4 >>> (x6 &&& 31)))] [.int x24, .ref x19, .ref u0] h24 _
    refine q_aload_n dJ5_ensureCapacityInternal_d00df_27 rfl ?_
    obtain ⟨fs28, x28, f28, g28, hq⟩ := vgi_e hq
    refine q_getf (k := 1) (T := TJ4) (C0 := RJ4) (N := 4) (ci := 1) dJ5_ensureCapacityInternal_d00df_28 fl_RJ5_22 rfl uin_RJ4 (by decide) rfl f28 g28 ?_
    refine q_ishl dJ5_ensureCapacityInternal_d00df_31 ?_
    refine q_cS (Y := mJ7_copyOf_9075b) (As := [.ref x19, .int (x24 <<< (x28 &&& 31))]) (st := [.ref u0]) sc_J7_copyOf_9075b dJ5_ensureCapacityInternal_d00df_32 ml_RJ5_108 rfl (Nat.le_of_ble_eq_true rfl) rfl (Nat.le_of_ble_eq_true rfl) hq (fun v h1 hq1 => ?_) (fun E h1 hq1 => ?_)
    rotate_left
    ·
      rcases hq1 with hq1 | ⟨E1, e1, hq1⟩
      · obtain ⟨_, z, _⟩ := hq1; exact nomatch z
      · obtain rfl := Sum.inr.inj e1; exact q_xout (fun z hz => nomatch hz) hq1
    rcases hq1 with hq1 | ⟨E1, e1, hq1⟩
    rotate_left
    · exact nomatch e1
    obtain ⟨x32, hv, hq⟩ := hq1
    obtain rfl := Sum.inl.inj hv
    clear hv
    obtain ⟨h32, eh32⟩ : ∃ z, z = h1 := ⟨_, rfl⟩
    rw [← eh32] at hq ⊢
    clear eh32
    show mv_rq l G mJ5_ensureCapacityInternal_d00df (d + 1) 35 [some (.ref u0), some (.int u1), some (.int (x4 >>> (x6 &&& 31)))] [.ref x32, .ref u0] h32 _
    obtain ⟨fs35, h35, f35, b35, l35, e35, hq⟩ := vpu_e hq
    refine q_putf (k := 0) (T := TJ4) (C0 := RJ4) (N := 4) (ci := 1) (ty := (.array .byte)) tyJ4 tyJ4_ok nmJ4 dJ5_ensureCapacityInternal_d00df_35 fl_RJ5_15 rfl uin_RJ4 (by decide) rfl rfl (by decide +kernel) rfl rfl b35 f35 l35 ?_
    rw [← e35]
    show mv_rq l G mJ5_ensureCapacityInternal_d00df (d + 1) 38 [some (.ref u0), some (.int u1), some (.int (x4 >>> (x6 &&& 31)))] [] h35 _
    exact q_vret dJ5_ensureCapacityInternal_d00df_38 rfl hq
def w_J5_newCapacity_0f7a4 (l : Launch) (G : mv_G) (d : Nat) (u0 : Nat) (u1 : Int32) (h : mv_H) (Q : mv_O → mv_H → Prop) : Prop :=
  vgb h u0 1 0 fun x1 =>
  vln G h x1 0 fun x4 =>
  vgi h u0 1 1 fun x8 =>
  vgi h u0 1 1 fun x24 =>
  mv_rq l G mJ8_newLength_cabcc d 0 (mv_in [.int x4, .int ((u1 <<< (x8 &&& 31)) - x4), .int (x4 + (2 <<< (x24 &&& 31)))] 4) [] h (vI (fun E h1 => Q (.inr E) h1) (fun x29 h29 =>
  vif (x29 = 2147483647) (
    False) (
    vgi h29 u0 1 1 fun x54 =>
    Q (.inl (some (.int (x29 >>> (x54 &&& 31))))) h29)))
theorem v_J5_newCapacity_0f7a4 {l : Launch} {G : mv_G} {d : Nat} {u0 : Nat} {u1 : Int32} {h : mv_H} {Q : mv_O → mv_H → Prop} (hG : mv_ok G) (hX : mv_okX l G) (hd : 6 ≤ d) (hq : w_J5_newCapacity_0f7a4 l G d u0 u1 h Q) : mv_rq l G mJ5_newCapacity_0f7a4 (d + 1) 0 (mv_in [.ref u0, .int u1] 6) [] h Q := by
  unfold w_J5_newCapacity_0f7a4 at hq
  show mv_rq l G mJ5_newCapacity_0f7a4 (d + 1) 0 [some (.ref u0), some (.int u1), none, none, none, none] [] h _
  refine q_aload_n dJ5_newCapacity_0f7a4_0 rfl ?_
  obtain ⟨fs1, x1, f1, g1, hq⟩ := vgb_e hq
  refine q_getf (k := 0) (T := TJ4) (C0 := RJ4) (N := 4) (ci := 1) dJ5_newCapacity_0f7a4_1 fl_RJ5_15 rfl uin_RJ4 (by decide) rfl f1 g1 ?_
  obtain ⟨y4, x4, g4, e4, hq⟩ := vln_e hq
  refine q_alen (t0 := 0) dJ5_newCapacity_0f7a4_4 (mv_tB hG) g4 ?_
  rw [← e4]
  show mv_rq l G mJ5_newCapacity_0f7a4 (d + 1) 5 [some (.ref u0), some (.int u1), none, none, none, none] [.int x4] h _
  refine q_istore_n dJ5_newCapacity_0f7a4_5 (Nat.le_of_ble_eq_true rfl) rfl ?_
  show mv_rq l G mJ5_newCapacity_0f7a4 (d + 1) 6 [some (.ref u0), some (.int u1), some (.int x4), none, none, none] [] h _
  refine q_iload_n dJ5_newCapacity_0f7a4_6 rfl ?_
  refine q_aload_n dJ5_newCapacity_0f7a4_7 rfl ?_
  obtain ⟨fs8, x8, f8, g8, hq⟩ := vgi_e hq
  refine q_getf (k := 1) (T := TJ4) (C0 := RJ4) (N := 4) (ci := 1) dJ5_newCapacity_0f7a4_8 fl_RJ5_22 rfl uin_RJ4 (by decide) rfl f8 g8 ?_
  refine q_ishl dJ5_newCapacity_0f7a4_11 ?_
  refine q_istore_n dJ5_newCapacity_0f7a4_12 (Nat.le_of_ble_eq_true rfl) rfl ?_
  show mv_rq l G mJ5_newCapacity_0f7a4 (d + 1) 13 [some (.ref u0), some (.int u1), some (.int x4), some (.int (u1 <<< (x8 &&& 31))), none, none] [] h _
  refine q_iload_n dJ5_newCapacity_0f7a4_13 rfl ?_
  refine q_iload_n dJ5_newCapacity_0f7a4_14 rfl ?_
  refine q_isub dJ5_newCapacity_0f7a4_15 ?_
  refine q_istore dJ5_newCapacity_0f7a4_16 (Nat.le_of_ble_eq_true rfl) rfl ?_
  show mv_rq l G mJ5_newCapacity_0f7a4 (d + 1) 18 [some (.ref u0), some (.int u1), some (.int x4), some (.int (u1 <<< (x8 &&& 31))), some (.int ((u1 <<< (x8 &&& 31)) - x4)), none] [] h _
  refine q_iload_n dJ5_newCapacity_0f7a4_18 rfl ?_
  refine q_iload dJ5_newCapacity_0f7a4_19 rfl ?_
  refine q_iload_n dJ5_newCapacity_0f7a4_21 rfl ?_
  refine q_iconst (v := 2) dJ5_newCapacity_0f7a4_22 (by decide) ?_
  refine q_aload_n dJ5_newCapacity_0f7a4_23 rfl ?_
  obtain ⟨fs24, x24, f24, g24, hq⟩ := vgi_e hq
  refine q_getf (k := 1) (T := TJ4) (C0 := RJ4) (N := 4) (ci := 1) dJ5_newCapacity_0f7a4_24 fl_RJ5_22 rfl uin_RJ4 (by decide) rfl f24 g24 ?_
  refine q_ishl dJ5_newCapacity_0f7a4_27 ?_
  refine q_iadd dJ5_newCapacity_0f7a4_28 ?_
  refine q_cS (Y := mJ8_newLength_cabcc) (As := [.int x4, .int ((u1 <<< (x8 &&& 31)) - x4), .int (x4 + (2 <<< (x24 &&& 31)))]) (st := []) sc_J8_newLength_cabcc dJ5_newCapacity_0f7a4_29 ml_RJ5_114 rfl (Nat.le_of_ble_eq_true rfl) rfl (Nat.le_of_ble_eq_true rfl) hq (fun v h1 hq1 => ?_) (fun E h1 hq1 => ?_)
  rotate_left
  ·
    rcases hq1 with hq1 | ⟨E1, e1, hq1⟩
    · obtain ⟨_, z, _⟩ := hq1; exact nomatch z
    · obtain rfl := Sum.inr.inj e1; exact q_xout (fun z hz => nomatch hz) hq1
  rcases hq1 with hq1 | ⟨E1, e1, hq1⟩
  rotate_left
  · exact nomatch e1
  obtain ⟨x29, hv, hq⟩ := hq1
  obtain rfl := Sum.inl.inj hv
  clear hv
  obtain ⟨h29, eh29⟩ : ∃ z, z = h1 := ⟨_, rfl⟩
  rw [← eh29] at hq ⊢
  clear eh29
  show mv_rq l G mJ5_newCapacity_0f7a4 (d + 1) 32 [some (.ref u0), some (.int u1), some (.int x4), some (.int (u1 <<< (x8 &&& 31))), some (.int ((u1 <<< (x8 &&& 31)) - x4)), none] [.int x29] h29 _
  refine q_istore dJ5_newCapacity_0f7a4_32 (Nat.le_of_ble_eq_true rfl) rfl ?_
  show mv_rq l G mJ5_newCapacity_0f7a4 (d + 1) 34 [some (.ref u0), some (.int u1), some (.int x4), some (.int (u1 <<< (x8 &&& 31))), some (.int ((u1 <<< (x8 &&& 31)) - x4)), some (.int x29)] [] h29 _
  refine q_iload dJ5_newCapacity_0f7a4_34 rfl ?_
  refine q_ldc dJ5_newCapacity_0f7a4_36 ct_RJ5_39 ?_
  refine q_icmp_ne (tgt := 51) dJ5_newCapacity_0f7a4_38 (by decide) (fun c38 => ?_) (fun c38 => ?_)
  ·
    have hq := vif_f hq c38
    refine q_iload dJ5_newCapacity_0f7a4_51 rfl ?_
    refine q_aload_n dJ5_newCapacity_0f7a4_53 rfl ?_
    obtain ⟨fs54, x54, f54, g54, hq⟩ := vgi_e hq
    refine q_getf (k := 1) (T := TJ4) (C0 := RJ4) (N := 4) (ci := 1) dJ5_newCapacity_0f7a4_54 fl_RJ5_22 rfl uin_RJ4 (by decide) rfl f54 g54 ?_
    refine q_ishr dJ5_newCapacity_0f7a4_57 ?_
    exact q_iret (ty := .int) dJ5_newCapacity_0f7a4_58 rfl rfl hq
  ·
    have hq := vif_t hq c38
    exact False.elim hq
def w_J5_setLength_d00df (l : Launch) (G : mv_G) (d : Nat) (u0 : Nat) (u1 : Int32) (h : mv_H) (Q : mv_O → mv_H → Prop) : Prop :=
  vif (0 ≤ u1) (
    vob h u0 1 (
    mv_rq l G mJ5_ensureCapacityInternal_d00df d 0 (mv_in [.ref u0, .int u1] 3) [] h (vU (fun E h1 => Q (.inr E) h1) (fun h15 =>
    vgi h15 u0 1 3 fun x19 =>
    vif (u1 ≤ x19) (
      vgi h15 u0 1 3 fun x64 =>
      vif (x64 ≤ u1) (
        mv_rq l G mJ5_setLength_d00df (d + 1) 76 [some (.ref u0), some (.int u1)] [] h15 Q) (
        vpu G h15 u0 1 2 (.int 1) fun h73 =>
        mv_rq l G mJ5_setLength_d00df (d + 1) 76 [some (.ref u0), some (.int u1)] [] h73 Q)) (
      vob h15 u0 1 (
      mv_rq l G mJ5_isLatin1_aae02 d 0 (mv_in [.ref u0] 1) [] h15 (vI (fun E h1 => Q (.inr E) h1) (fun x27 h27 =>
      vif (x27 = 0) (
        vgb h27 u0 1 0 fun x49 =>
        vgi h27 u0 1 3 fun x53 =>
        False) (
        vgb h27 u0 1 0 fun x34 =>
        vgi h27 u0 1 3 fun x38 =>
        False))))))))) (
    False)
theorem v_J5_setLength_d00df {l : Launch} {G : mv_G} {d : Nat} {u0 : Nat} {u1 : Int32} {h : mv_H} {Q : mv_O → mv_H → Prop} (hG : mv_ok G) (hX : mv_okX l G) (hd : 6 ≤ d) (hq : w_J5_setLength_d00df l G d u0 u1 h Q) : mv_rq l G mJ5_setLength_d00df (d + 1) 0 (mv_in [.ref u0, .int u1] 2) [] h Q := by
  unfold w_J5_setLength_d00df at hq
  show mv_rq l G mJ5_setLength_d00df (d + 1) 0 [some (.ref u0), some (.int u1)] [] h _
  refine q_iload_n dJ5_setLength_d00df_0 rfl ?_
  refine q_if_ge (tgt := 13) dJ5_setLength_d00df_1 (by decide) (fun c1 => ?_) (fun c1 => ?_)
  ·
    have hq := vif_t hq c1
    refine q_aload_n dJ5_setLength_d00df_13 rfl ?_
    refine q_iload_n dJ5_setLength_d00df_14 rfl ?_
    obtain ⟨⟨fs15, f15⟩, hq⟩ := vob_e hq
    refine q_cP (Y := mJ5_ensureCapacityInternal_d00df) (As := [.int u1]) (st := []) (b := u0) (ci := 1) pc_J5_ensureCapacityInternal_d00df dJ5_setLength_d00df_15 ml_RJ5_100 rfl f15 rfl (Nat.le_of_ble_eq_true rfl) rfl (Nat.le_of_ble_eq_true rfl) hq (fun v h1 hq1 => ?_) (fun E h1 hq1 => ?_)
    rotate_left
    ·
      rcases hq1 with hq1 | ⟨E1, e1, hq1⟩
      · exact nomatch hq1.1
      · obtain rfl := Sum.inr.inj e1; exact q_xout (fun z hz => nomatch hz) hq1
    rcases hq1 with hq1 | ⟨E1, e1, hq1⟩
    rotate_left
    · exact nomatch e1
    obtain ⟨hv, hq⟩ := hq1
    obtain rfl := Sum.inl.inj hv
    clear hv
    obtain ⟨h15, eh15⟩ : ∃ z, z = h1 := ⟨_, rfl⟩
    rw [← eh15] at hq ⊢
    clear eh15
    show mv_rq l G mJ5_setLength_d00df (d + 1) 18 [some (.ref u0), some (.int u1)] [] h15 _
    refine q_aload_n dJ5_setLength_d00df_18 rfl ?_
    obtain ⟨fs19, x19, f19, g19, hq⟩ := vgi_e hq
    refine q_getf (k := 3) (T := TJ4) (C0 := RJ4) (N := 4) (ci := 1) dJ5_setLength_d00df_19 fl_RJ5_79 rfl uin_RJ4 (by decide) rfl f19 g19 ?_
    refine q_iload_n dJ5_setLength_d00df_22 rfl ?_
    refine q_icmp_ge (tgt := 63) dJ5_setLength_d00df_23 (by decide) (fun c23 => ?_) (fun c23 => ?_)
    ·
      have hq := vif_t hq c23
      refine q_aload_n dJ5_setLength_d00df_63 rfl ?_
      obtain ⟨fs64, x64, f64, g64, hq⟩ := vgi_e hq
      refine q_getf (k := 3) (T := TJ4) (C0 := RJ4) (N := 4) (ci := 1) dJ5_setLength_d00df_64 fl_RJ5_79 rfl uin_RJ4 (by decide) rfl f64 g64 ?_
      refine q_iload_n dJ5_setLength_d00df_67 rfl ?_
      refine q_icmp_le (tgt := 76) dJ5_setLength_d00df_68 (by decide) (fun c68 => ?_) (fun c68 => ?_)
      ·
        have hq := vif_t hq c68
        exact mv_weak (A := [some (.ref u0), some (.int u1)]) (by repeat' constructor) hq
      ·
        have hq := vif_f hq c68
        refine q_aload_n dJ5_setLength_d00df_71 rfl ?_
        refine q_iconst (v := 1) dJ5_setLength_d00df_72 (by decide) ?_
        obtain ⟨fs73, h73, f73, b73, l73, e73, hq⟩ := vpu_e hq
        refine q_putf (k := 2) (T := TJ4) (C0 := RJ4) (N := 4) (ci := 1) (ty := .boolean) tyJ4 tyJ4_ok nmJ4 dJ5_setLength_d00df_73 fl_RJ5_73 rfl uin_RJ4 (by decide) rfl rfl (by decide +kernel) rfl rfl b73 f73 l73 ?_
        rw [← e73]
        show mv_rq l G mJ5_setLength_d00df (d + 1) 76 [some (.ref u0), some (.int u1)] [] h73 _
        exact mv_weak (A := [some (.ref u0), some (.int u1)]) (by repeat' constructor) hq
    ·
      have hq := vif_f hq c23
      refine q_aload_n dJ5_setLength_d00df_26 rfl ?_
      obtain ⟨⟨fs27, f27⟩, hq⟩ := vob_e hq
      refine q_cV (Y := mJ5_isLatin1_aae02) (As := []) (st := []) (b := u0) (ci := 1) vc_J5_isLatin1_aae02 dJ5_setLength_d00df_27 ml_RJ5_83 rfl f27 rfl (Nat.le_of_ble_eq_true rfl) rfl (Nat.le_of_ble_eq_true rfl) hq (fun v h1 hq1 => ?_) (fun E h1 hq1 => ?_)
      rotate_left
      ·
        rcases hq1 with hq1 | ⟨E1, e1, hq1⟩
        · obtain ⟨_, z, _⟩ := hq1; exact nomatch z
        · obtain rfl := Sum.inr.inj e1; exact q_xout (fun z hz => nomatch hz) hq1
      rcases hq1 with hq1 | ⟨E1, e1, hq1⟩
      rotate_left
      · exact nomatch e1
      obtain ⟨x27, hv, hq⟩ := hq1
      obtain rfl := Sum.inl.inj hv
      clear hv
      obtain ⟨h27, eh27⟩ : ∃ z, z = h1 := ⟨_, rfl⟩
      rw [← eh27] at hq ⊢
      clear eh27
      show mv_rq l G mJ5_setLength_d00df (d + 1) 30 [some (.ref u0), some (.int u1)] [.int x27] h27 _
      refine q_if_eq (tgt := 48) dJ5_setLength_d00df_30 (by decide) (fun c30 => ?_) (fun c30 => ?_)
      ·
        have hq := vif_t hq c30
        refine q_aload_n dJ5_setLength_d00df_48 rfl ?_
        obtain ⟨fs49, x49, f49, g49, hq⟩ := vgb_e hq
        refine q_getf (k := 0) (T := TJ4) (C0 := RJ4) (N := 4) (ci := 1) dJ5_setLength_d00df_49 fl_RJ5_15 rfl uin_RJ4 (by decide) rfl f49 g49 ?_
        refine q_aload_n dJ5_setLength_d00df_52 rfl ?_
        obtain ⟨fs53, x53, f53, g53, hq⟩ := vgi_e hq
        refine q_getf (k := 3) (T := TJ4) (C0 := RJ4) (N := 4) (ci := 1) dJ5_setLength_d00df_53 fl_RJ5_79 rfl uin_RJ4 (by decide) rfl f53 g53 ?_
        refine q_iload_n dJ5_setLength_d00df_56 rfl ?_
        exact False.elim hq
      ·
        have hq := vif_f hq c30
        refine q_aload_n dJ5_setLength_d00df_33 rfl ?_
        obtain ⟨fs34, x34, f34, g34, hq⟩ := vgb_e hq
        refine q_getf (k := 0) (T := TJ4) (C0 := RJ4) (N := 4) (ci := 1) dJ5_setLength_d00df_34 fl_RJ5_15 rfl uin_RJ4 (by decide) rfl f34 g34 ?_
        refine q_aload_n dJ5_setLength_d00df_37 rfl ?_
        obtain ⟨fs38, x38, f38, g38, hq⟩ := vgi_e hq
        refine q_getf (k := 3) (T := TJ4) (C0 := RJ4) (N := 4) (ci := 1) dJ5_setLength_d00df_38 fl_RJ5_79 rfl uin_RJ4 (by decide) rfl f38 g38 ?_
        refine q_iload_n dJ5_setLength_d00df_41 rfl ?_
        exact False.elim hq
  ·
    have hq := vif_f hq c1
    exact False.elim hq
def w_J5_setLength_d00df_76 (l : Launch) (G : mv_G) (d : Nat) (u0 : Nat) (u1 : Int32) (h : mv_H) (Q : mv_O → mv_H → Prop) : Prop :=
  vpu G h u0 1 3 (.int u1) fun h78 =>
  Q (.inl none) h78
theorem v_J5_setLength_d00df_76 {l : Launch} {G : mv_G} {d : Nat} {u0 : Nat} {u1 : Int32} {h : mv_H} {Q : mv_O → mv_H → Prop} (hG : mv_ok G) (hX : mv_okX l G) (hd : 6 ≤ d) (hq : w_J5_setLength_d00df_76 l G d u0 u1 h Q) : mv_rq l G mJ5_setLength_d00df (d + 1) 76 [some (.ref u0), some (.int u1)] [] h Q := by
  unfold w_J5_setLength_d00df_76 at hq
  refine q_aload_n dJ5_setLength_d00df_76 rfl ?_
  refine q_iload_n dJ5_setLength_d00df_77 rfl ?_
  obtain ⟨fs78, h78, f78, b78, l78, e78, hq⟩ := vpu_e hq
  refine q_putf (k := 3) (T := TJ4) (C0 := RJ4) (N := 4) (ci := 1) (ty := .int) tyJ4 tyJ4_ok nmJ4 dJ5_setLength_d00df_78 fl_RJ5_79 rfl uin_RJ4 (by decide) rfl rfl (by decide +kernel) rfl rfl b78 f78 l78 ?_
  rw [← e78]
  show mv_rq l G mJ5_setLength_d00df (d + 1) 81 [some (.ref u0), some (.int u1)] [] h78 _
  exact q_vret dJ5_setLength_d00df_81 rfl hq
def w_J5_charAt_5068e (l : Launch) (G : mv_G) (d : Nat) (u0 : Nat) (u1 : Int32) (h : mv_H) (Q : mv_O → mv_H → Prop) : Prop :=
  vgi h u0 1 1 fun x1 =>
  vgb h u0 1 0 fun x6 =>
  vgi h u0 1 3 fun x11 =>
  vln G h x6 0 fun x15 =>
  mv_rq l G mJ0_checkIndex_df160 d 0 (mv_in [.int u1, .int (if (x15 >>> (x1 &&& 31)) < x11 then (x15 >>> (x1 &&& 31)) else x11)] 2) [] h (vU (fun E h1 => Q (.inr E) h1) (fun h26 =>
  vif (x1 = 0) (
    vai G h26 x6 0 u1 fun x35 =>
    narrow .char (.int ((x35 &&& 255).toUInt32 % 65536).toInt32) = .int ((x35 &&& 255).toUInt32 % 65536).toInt32 ∧
    Q (.inl (some (.int ((x35 &&& 255).toUInt32 % 65536).toInt32))) h26) (
    False)))
theorem v_J5_charAt_5068e {l : Launch} {G : mv_G} {d : Nat} {u0 : Nat} {u1 : Int32} {h : mv_H} {Q : mv_O → mv_H → Prop} (hG : mv_ok G) (hq : w_J5_charAt_5068e l G d u0 u1 h Q) : mv_rq l G mJ5_charAt_5068e (d + 1) 0 (mv_in [.ref u0, .int u1] 5) [] h Q := by
  unfold w_J5_charAt_5068e at hq
  show mv_rq l G mJ5_charAt_5068e (d + 1) 0 [some (.ref u0), some (.int u1), none, none, none] [] h _
  refine q_aload_n dJ5_charAt_5068e_0 rfl ?_
  obtain ⟨fs1, x1, f1, g1, hq⟩ := vgi_e hq
  refine q_getf (k := 1) (T := TJ4) (C0 := RJ4) (N := 4) (ci := 1) dJ5_charAt_5068e_1 fl_RJ5_22 rfl uin_RJ4 (by decide) rfl f1 g1 ?_
  refine q_istore_n dJ5_charAt_5068e_4 (Nat.le_of_ble_eq_true rfl) rfl ?_
  show mv_rq l G mJ5_charAt_5068e (d + 1) 5 [some (.ref u0), some (.int u1), some (.int x1), none, none] [] h _
  refine q_aload_n dJ5_charAt_5068e_5 rfl ?_
  obtain ⟨fs6, x6, f6, g6, hq⟩ := vgb_e hq
  refine q_getf (k := 0) (T := TJ4) (C0 := RJ4) (N := 4) (ci := 1) dJ5_charAt_5068e_6 fl_RJ5_15 rfl uin_RJ4 (by decide) rfl f6 g6 ?_
  refine q_astore_n dJ5_charAt_5068e_9 (Nat.le_of_ble_eq_true rfl) rfl ?_
  show mv_rq l G mJ5_charAt_5068e (d + 1) 10 [some (.ref u0), some (.int u1), some (.int x1), some (.ref x6), none] [] h _
  refine q_aload_n dJ5_charAt_5068e_10 rfl ?_
  obtain ⟨fs11, x11, f11, g11, hq⟩ := vgi_e hq
  refine q_getf (k := 3) (T := TJ4) (C0 := RJ4) (N := 4) (ci := 1) dJ5_charAt_5068e_11 fl_RJ5_79 rfl uin_RJ4 (by decide) rfl f11 g11 ?_
  refine q_aload_n dJ5_charAt_5068e_14 rfl ?_
  obtain ⟨y15, x15, g15, e15, hq⟩ := vln_e hq
  refine q_alen (t0 := 0) dJ5_charAt_5068e_15 (mv_tB hG) g15 ?_
  rw [← e15]
  show mv_rq l G mJ5_charAt_5068e (d + 1) 16 [some (.ref u0), some (.int u1), some (.int x1), some (.ref x6), none] [.int x15, .int x11] h _
  refine q_iload_n dJ5_charAt_5068e_16 rfl ?_
  refine q_ishr dJ5_charAt_5068e_17 ?_
  refine q_mmin dJ5_charAt_5068e_18 ml_RJ5_138 mth_min_s mth_i mth_min_c rfl (Nat.le_of_ble_eq_true rfl) ?_
  refine q_istore dJ5_charAt_5068e_21 (Nat.le_of_ble_eq_true rfl) rfl ?_
  show mv_rq l G mJ5_charAt_5068e (d + 1) 23 [some (.ref u0), some (.int u1), some (.int x1), some (.ref x6), some (.int (if (x15 >>> (x1 &&& 31)) < x11 then (x15 >>> (x1 &&& 31)) else x11))] [] h _
  refine q_iload_n dJ5_charAt_5068e_23 rfl ?_
  refine q_iload dJ5_charAt_5068e_24 rfl ?_
  refine q_cS (Y := mJ0_checkIndex_df160) (As := [.int u1, .int (if (x15 >>> (x1 &&& 31)) < x11 then (x15 >>> (x1 &&& 31)) else x11)]) (st := []) sc_J0_checkIndex_df160 dJ5_charAt_5068e_26 ml_RJ5_144 rfl (Nat.le_of_ble_eq_true rfl) rfl (Nat.le_of_ble_eq_true rfl) hq (fun v h1 hq1 => ?_) (fun E h1 hq1 => ?_)
  rotate_left
  ·
    rcases hq1 with hq1 | ⟨E1, e1, hq1⟩
    · exact nomatch hq1.1
    · obtain rfl := Sum.inr.inj e1; exact q_xout (fun z hz => nomatch hz) hq1
  rcases hq1 with hq1 | ⟨E1, e1, hq1⟩
  rotate_left
  · exact nomatch e1
  obtain ⟨hv, hq⟩ := hq1
  obtain rfl := Sum.inl.inj hv
  clear hv
  obtain ⟨h26, eh26⟩ : ∃ z, z = h1 := ⟨_, rfl⟩
  rw [← eh26] at hq ⊢
  clear eh26
  show mv_rq l G mJ5_charAt_5068e (d + 1) 29 [some (.ref u0), some (.int u1), some (.int x1), some (.ref x6), some (.int (if (x15 >>> (x1 &&& 31)) < x11 then (x15 >>> (x1 &&& 31)) else x11))] [] h26 _
  refine q_iload_n dJ5_charAt_5068e_29 rfl ?_
  refine q_if_ne (tgt := 42) dJ5_charAt_5068e_30 (by decide) (fun c30 => ?_) (fun c30 => ?_)
  ·
    have hq := vif_f hq c30
    refine q_aload_n dJ5_charAt_5068e_42 rfl ?_
    refine q_iload_n dJ5_charAt_5068e_43 rfl ?_
    exact False.elim hq
  ·
    have hq := vif_t hq c30
    refine q_aload_n dJ5_charAt_5068e_33 rfl ?_
    refine q_iload_n dJ5_charAt_5068e_34 rfl ?_
    obtain ⟨n35, f35, x35, g35, i35, e35, hq⟩ := vai_e hq
    refine q_bald (t0 := 0) dJ5_charAt_5068e_35 (mv_tB hG) g35 i35 ?_
    rw [← e35]
    show mv_rq l G mJ5_charAt_5068e (d + 1) 36 [some (.ref u0), some (.int u1), some (.int x1), some (.ref x6), some (.int (if (x15 >>> (x1 &&& 31)) < x11 then (x15 >>> (x1 &&& 31)) else x11))] [.int x35] h26 _
    refine q_sipush (v := 255) dJ5_charAt_5068e_36 (by decide) ?_
    refine q_iand dJ5_charAt_5068e_39 ?_
    refine q_i2c dJ5_charAt_5068e_40 ?_
    obtain ⟨nr41, hq⟩ := hq
    exact q_iret (ty := .char) dJ5_charAt_5068e_41 rfl nr41 hq
def w_J5_append_cf1ce (l : Launch) (G : mv_G) (d : Nat) (u0 : Nat) (u1 : Nat) (h : mv_H) (Q : mv_O → mv_H → Prop) : Prop :=
  vob h u1 0 (
  mv_rq l G mJ0_length_8abf5 d 0 (mv_in [.ref u1] 1) [] h (vI (fun E h1 => Q (.inr E) h1) (fun x10 h10 =>
  vgi h10 u0 1 3 fun x16 =>
  vob h10 u0 1 (
  mv_rq l G mJ5_ensureCapacityInternal_d00df d 0 (mv_in [.ref u0, .int (x16 + x10)] 3) [] h10 (vU (fun E h1 => Q (.inr E) h1) (fun h21 =>
  vgi h21 u0 1 3 fun x26 =>
  vob h21 u0 1 (
  mv_rq l G mJ5_putStringAt_47b60 d 0 (mv_in [.ref u0, .int x26, .ref u1] 3) [] h21 (vU (fun E h1 => Q (.inr E) h1) (fun h30 =>
  vgi h30 u0 1 3 fun x35 =>
  vpu G h30 u0 1 3 (.int (x35 + x10)) fun h40 =>
  Q (.inl (some (.ref u0))) h40)))))))))
theorem v_J5_append_cf1ce {l : Launch} {G : mv_G} {d : Nat} {u0 : Nat} {u1 : Nat} {h : mv_H} {Q : mv_O → mv_H → Prop} (hG : mv_ok G) (hq : w_J5_append_cf1ce l G d u0 u1 h Q) : mv_rq l G mJ5_append_cf1ce (d + 1) 0 (mv_in [.ref u0, .ref u1] 3) [] h Q := by
  unfold w_J5_append_cf1ce at hq
  show mv_rq l G mJ5_append_cf1ce (d + 1) 0 [some (.ref u0), some (.ref u1), none] [] h _
  refine q_aload_n dJ5_append_cf1ce_0 rfl ?_
  refine q_ifnonnull (tgt := 9) dJ5_append_cf1ce_1 (by decide) ?_
  refine q_aload_n dJ5_append_cf1ce_9 rfl ?_
  obtain ⟨⟨fs10, f10⟩, hq⟩ := vob_e hq
  refine q_cV (Y := mJ0_length_8abf5) (As := []) (st := []) (b := u1) (ci := 0) vc_J0_length_8abf5 dJ5_append_cf1ce_10 ml_RJ5_32 rfl f10 rfl (Nat.le_of_ble_eq_true rfl) rfl (Nat.le_of_ble_eq_true rfl) hq (fun v h1 hq1 => ?_) (fun E h1 hq1 => ?_)
  rotate_left
  ·
    rcases hq1 with hq1 | ⟨E1, e1, hq1⟩
    · obtain ⟨_, z, _⟩ := hq1; exact nomatch z
    · obtain rfl := Sum.inr.inj e1; exact q_xout (fun z hz => nomatch hz) hq1
  rcases hq1 with hq1 | ⟨E1, e1, hq1⟩
  rotate_left
  · exact nomatch e1
  obtain ⟨x10, hv, hq⟩ := hq1
  obtain rfl := Sum.inl.inj hv
  clear hv
  obtain ⟨h10, eh10⟩ : ∃ z, z = h1 := ⟨_, rfl⟩
  rw [← eh10] at hq ⊢
  clear eh10
  show mv_rq l G mJ5_append_cf1ce (d + 1) 13 [some (.ref u0), some (.ref u1), none] [.int x10] h10 _
  refine q_istore_n dJ5_append_cf1ce_13 (Nat.le_of_ble_eq_true rfl) rfl ?_
  show mv_rq l G mJ5_append_cf1ce (d + 1) 14 [some (.ref u0), some (.ref u1), some (.int x10)] [] h10 _
  refine q_aload_n dJ5_append_cf1ce_14 rfl ?_
  refine q_aload_n dJ5_append_cf1ce_15 rfl ?_
  obtain ⟨fs16, x16, f16, g16, hq⟩ := vgi_e hq
  refine q_getf (k := 3) (T := TJ4) (C0 := RJ4) (N := 4) (ci := 1) dJ5_append_cf1ce_16 fl_RJ5_79 rfl uin_RJ4 (by decide) rfl f16 g16 ?_
  refine q_iload_n dJ5_append_cf1ce_19 rfl ?_
  refine q_iadd dJ5_append_cf1ce_20 ?_
  obtain ⟨⟨fs21, f21⟩, hq⟩ := vob_e hq
  refine q_cP (Y := mJ5_ensureCapacityInternal_d00df) (As := [.int (x16 + x10)]) (st := []) (b := u0) (ci := 1) pc_J5_ensureCapacityInternal_d00df dJ5_append_cf1ce_21 ml_RJ5_100 rfl f21 rfl (Nat.le_of_ble_eq_true rfl) rfl (Nat.le_of_ble_eq_true rfl) hq (fun v h1 hq1 => ?_) (fun E h1 hq1 => ?_)
  rotate_left
  ·
    rcases hq1 with hq1 | ⟨E1, e1, hq1⟩
    · exact nomatch hq1.1
    · obtain rfl := Sum.inr.inj e1; exact q_xout (fun z hz => nomatch hz) hq1
  rcases hq1 with hq1 | ⟨E1, e1, hq1⟩
  rotate_left
  · exact nomatch e1
  obtain ⟨hv, hq⟩ := hq1
  obtain rfl := Sum.inl.inj hv
  clear hv
  obtain ⟨h21, eh21⟩ : ∃ z, z = h1 := ⟨_, rfl⟩
  rw [← eh21] at hq ⊢
  clear eh21
  show mv_rq l G mJ5_append_cf1ce (d + 1) 24 [some (.ref u0), some (.ref u1), some (.int x10)] [] h21 _
  refine q_aload_n dJ5_append_cf1ce_24 rfl ?_
  refine q_aload_n dJ5_append_cf1ce_25 rfl ?_
  obtain ⟨fs26, x26, f26, g26, hq⟩ := vgi_e hq
  refine q_getf (k := 3) (T := TJ4) (C0 := RJ4) (N := 4) (ci := 1) dJ5_append_cf1ce_26 fl_RJ5_79 rfl uin_RJ4 (by decide) rfl f26 g26 ?_
  refine q_aload_n dJ5_append_cf1ce_29 rfl ?_
  obtain ⟨⟨fs30, f30⟩, hq⟩ := vob_e hq
  refine q_cP (Y := mJ5_putStringAt_47b60) (As := [.int x26, .ref u1]) (st := []) (b := u0) (ci := 1) pc_J5_putStringAt_47b60 dJ5_append_cf1ce_30 ml_RJ5_208 rfl f30 rfl (Nat.le_of_ble_eq_true rfl) rfl (Nat.le_of_ble_eq_true rfl) hq (fun v h1 hq1 => ?_) (fun E h1 hq1 => ?_)
  rotate_left
  ·
    rcases hq1 with hq1 | ⟨E1, e1, hq1⟩
    · exact nomatch hq1.1
    · obtain rfl := Sum.inr.inj e1; exact q_xout (fun z hz => nomatch hz) hq1
  rcases hq1 with hq1 | ⟨E1, e1, hq1⟩
  rotate_left
  · exact nomatch e1
  obtain ⟨hv, hq⟩ := hq1
  obtain rfl := Sum.inl.inj hv
  clear hv
  obtain ⟨h30, eh30⟩ : ∃ z, z = h1 := ⟨_, rfl⟩
  rw [← eh30] at hq ⊢
  clear eh30
  show mv_rq l G mJ5_append_cf1ce (d + 1) 33 [some (.ref u0), some (.ref u1), some (.int x10)] [] h30 _
  refine q_aload_n dJ5_append_cf1ce_33 rfl ?_
  refine q_dup dJ5_append_cf1ce_34 rfl ?_
  obtain ⟨fs35, x35, f35, g35, hq⟩ := vgi_e hq
  refine q_getf (k := 3) (T := TJ4) (C0 := RJ4) (N := 4) (ci := 1) dJ5_append_cf1ce_35 fl_RJ5_79 rfl uin_RJ4 (by decide) rfl f35 g35 ?_
  refine q_iload_n dJ5_append_cf1ce_38 rfl ?_
  refine q_iadd dJ5_append_cf1ce_39 ?_
  obtain ⟨fs40, h40, f40, b40, l40, e40, hq⟩ := vpu_e hq
  refine q_putf (k := 3) (T := TJ4) (C0 := RJ4) (N := 4) (ci := 1) (ty := .int) tyJ4 tyJ4_ok nmJ4 dJ5_append_cf1ce_40 fl_RJ5_79 rfl uin_RJ4 (by decide) rfl rfl (by decide +kernel) rfl rfl b40 f40 l40 ?_
  rw [← e40]
  show mv_rq l G mJ5_append_cf1ce (d + 1) 43 [some (.ref u0), some (.ref u1), some (.int x10)] [] h40 _
  refine q_aload_n dJ5_append_cf1ce_43 rfl ?_
  exact q_aret (rt := (.object "java/lang/AbstractStringBuilder")) dJ5_append_cf1ce_44 rfl (Or.inl ⟨_, rfl⟩) (Or.inr ⟨_, rfl⟩) hq
def w_J5_append_3fe6f (l : Launch) (G : mv_G) (d : Nat) (u0 : Nat) (u1 : Int32) (h : mv_H) (Q : mv_O → mv_H → Prop) : Prop :=
  vgi h u0 1 3 fun x2 =>
  vob h u0 1 (
  mv_rq l G mJ5_ensureCapacityInternal_d00df d 0 (mv_in [.ref u0, .int (x2 + 1)] 3) [] h (vU (fun E h1 => Q (.inr E) h1) (fun h7 =>
  vob h7 u0 1 (
  mv_rq l G mJ5_isLatin1_aae02 d 0 (mv_in [.ref u0] 1) [] h7 (vI (fun E h1 => Q (.inr E) h1) (fun x11 h11 =>
  vif (x11 = 0) (
    mv_rq l G mJ5_append_3fe6f (d + 1) 45 [some (.ref u0), some (.int u1)] [] h11 Q) (
    mv_rq l G mJ1_canEncode_fc78d d 0 (mv_in [.int u1] 1) [] h11 (vI (fun E h1 => Q (.inr E) h1) (fun x18 h18 =>
    vif (x18 = 0) (
      mv_rq l G mJ5_append_3fe6f (d + 1) 45 [some (.ref u0), some (.int u1)] [] h18 Q) (
      vgb h18 u0 1 0 fun x25 =>
      vgi h18 u0 1 3 fun x30 =>
      vpu G h18 u0 1 3 (.int (x30 + 1)) fun h36 =>
      vsi G h36 x25 0 x30 (vp_nar .byte u1.toInt8.toInt32) fun h41 =>
      Q (.inl (some (.ref u0))) h41))))))))))
theorem v_J5_append_3fe6f {l : Launch} {G : mv_G} {d : Nat} {u0 : Nat} {u1 : Int32} {h : mv_H} {Q : mv_O → mv_H → Prop} (hG : mv_ok G) (hq : w_J5_append_3fe6f l G d u0 u1 h Q) : mv_rq l G mJ5_append_3fe6f (d + 1) 0 (mv_in [.ref u0, .int u1] 2) [] h Q := by
  unfold w_J5_append_3fe6f at hq
  show mv_rq l G mJ5_append_3fe6f (d + 1) 0 [some (.ref u0), some (.int u1)] [] h _
  refine q_aload_n dJ5_append_3fe6f_0 rfl ?_
  refine q_aload_n dJ5_append_3fe6f_1 rfl ?_
  obtain ⟨fs2, x2, f2, g2, hq⟩ := vgi_e hq
  refine q_getf (k := 3) (T := TJ4) (C0 := RJ4) (N := 4) (ci := 1) dJ5_append_3fe6f_2 fl_RJ5_79 rfl uin_RJ4 (by decide) rfl f2 g2 ?_
  refine q_iconst (v := 1) dJ5_append_3fe6f_5 (by decide) ?_
  refine q_iadd dJ5_append_3fe6f_6 ?_
  obtain ⟨⟨fs7, f7⟩, hq⟩ := vob_e hq
  refine q_cP (Y := mJ5_ensureCapacityInternal_d00df) (As := [.int (x2 + 1)]) (st := []) (b := u0) (ci := 1) pc_J5_ensureCapacityInternal_d00df dJ5_append_3fe6f_7 ml_RJ5_100 rfl f7 rfl (Nat.le_of_ble_eq_true rfl) rfl (Nat.le_of_ble_eq_true rfl) hq (fun v h1 hq1 => ?_) (fun E h1 hq1 => ?_)
  rotate_left
  ·
    rcases hq1 with hq1 | ⟨E1, e1, hq1⟩
    · exact nomatch hq1.1
    · obtain rfl := Sum.inr.inj e1; exact q_xout (fun z hz => nomatch hz) hq1
  rcases hq1 with hq1 | ⟨E1, e1, hq1⟩
  rotate_left
  · exact nomatch e1
  obtain ⟨hv, hq⟩ := hq1
  obtain rfl := Sum.inl.inj hv
  clear hv
  obtain ⟨h7, eh7⟩ : ∃ z, z = h1 := ⟨_, rfl⟩
  rw [← eh7] at hq ⊢
  clear eh7
  show mv_rq l G mJ5_append_3fe6f (d + 1) 10 [some (.ref u0), some (.int u1)] [] h7 _
  refine q_aload_n dJ5_append_3fe6f_10 rfl ?_
  obtain ⟨⟨fs11, f11⟩, hq⟩ := vob_e hq
  refine q_cV (Y := mJ5_isLatin1_aae02) (As := []) (st := []) (b := u0) (ci := 1) vc_J5_isLatin1_aae02 dJ5_append_3fe6f_11 ml_RJ5_83 rfl f11 rfl (Nat.le_of_ble_eq_true rfl) rfl (Nat.le_of_ble_eq_true rfl) hq (fun v h1 hq1 => ?_) (fun E h1 hq1 => ?_)
  rotate_left
  ·
    rcases hq1 with hq1 | ⟨E1, e1, hq1⟩
    · obtain ⟨_, z, _⟩ := hq1; exact nomatch z
    · obtain rfl := Sum.inr.inj e1; exact q_xout (fun z hz => nomatch hz) hq1
  rcases hq1 with hq1 | ⟨E1, e1, hq1⟩
  rotate_left
  · exact nomatch e1
  obtain ⟨x11, hv, hq⟩ := hq1
  obtain rfl := Sum.inl.inj hv
  clear hv
  obtain ⟨h11, eh11⟩ : ∃ z, z = h1 := ⟨_, rfl⟩
  rw [← eh11] at hq ⊢
  clear eh11
  show mv_rq l G mJ5_append_3fe6f (d + 1) 14 [some (.ref u0), some (.int u1)] [.int x11] h11 _
  refine q_if_eq (tgt := 45) dJ5_append_3fe6f_14 (by decide) (fun c14 => ?_) (fun c14 => ?_)
  ·
    have hq := vif_t hq c14
    exact mv_weak (A := [some (.ref u0), some (.int u1)]) (by repeat' constructor) hq
  ·
    have hq := vif_f hq c14
    refine q_iload_n dJ5_append_3fe6f_17 rfl ?_
    refine q_cS (Y := mJ1_canEncode_fc78d) (As := [.int u1]) (st := []) sc_J1_canEncode_fc78d dJ5_append_3fe6f_18 ml_RJ5_191 rfl (Nat.le_of_ble_eq_true rfl) rfl (Nat.le_of_ble_eq_true rfl) hq (fun v h1 hq1 => ?_) (fun E h1 hq1 => ?_)
    rotate_left
    ·
      rcases hq1 with hq1 | ⟨E1, e1, hq1⟩
      · obtain ⟨_, z, _⟩ := hq1; exact nomatch z
      · obtain rfl := Sum.inr.inj e1; exact q_xout (fun z hz => nomatch hz) hq1
    rcases hq1 with hq1 | ⟨E1, e1, hq1⟩
    rotate_left
    · exact nomatch e1
    obtain ⟨x18, hv, hq⟩ := hq1
    obtain rfl := Sum.inl.inj hv
    clear hv
    obtain ⟨h18, eh18⟩ : ∃ z, z = h1 := ⟨_, rfl⟩
    rw [← eh18] at hq ⊢
    clear eh18
    show mv_rq l G mJ5_append_3fe6f (d + 1) 21 [some (.ref u0), some (.int u1)] [.int x18] h18 _
    refine q_if_eq (tgt := 45) dJ5_append_3fe6f_21 (by decide) (fun c21 => ?_) (fun c21 => ?_)
    ·
      have hq := vif_t hq c21
      exact mv_weak (A := [some (.ref u0), some (.int u1)]) (by repeat' constructor) hq
    ·
      have hq := vif_f hq c21
      refine q_aload_n dJ5_append_3fe6f_24 rfl ?_
      obtain ⟨fs25, x25, f25, g25, hq⟩ := vgb_e hq
      refine q_getf (k := 0) (T := TJ4) (C0 := RJ4) (N := 4) (ci := 1) dJ5_append_3fe6f_25 fl_RJ5_15 rfl uin_RJ4 (by decide) rfl f25 g25 ?_
      refine q_aload_n dJ5_append_3fe6f_28 rfl ?_
      refine q_dup dJ5_append_3fe6f_29 rfl ?_
      obtain ⟨fs30, x30, f30, g30, hq⟩ := vgi_e hq
      refine q_getf (k := 3) (T := TJ4) (C0 := RJ4) (N := 4) (ci := 1) dJ5_append_3fe6f_30 fl_RJ5_79 rfl uin_RJ4 (by decide) rfl f30 g30 ?_
      refine q_dup_x1 dJ5_append_3fe6f_33 rfl rfl ?_
      refine q_iconst (v := 1) dJ5_append_3fe6f_34 (by decide) ?_
      refine q_iadd dJ5_append_3fe6f_35 ?_
      obtain ⟨fs36, h36, f36, b36, l36, e36, hq⟩ := vpu_e hq
      refine q_putf (k := 3) (T := TJ4) (C0 := RJ4) (N := 4) (ci := 1) (ty := .int) tyJ4 tyJ4_ok nmJ4 dJ5_append_3fe6f_36 fl_RJ5_79 rfl uin_RJ4 (by decide) rfl rfl (by decide +kernel) rfl rfl b36 f36 l36 ?_
      rw [← e36]
      show mv_rq l G mJ5_append_3fe6f (d + 1) 39 [some (.ref u0), some (.int u1)] [.int x30, .ref x25] h36 _
      refine q_iload_n dJ5_append_3fe6f_39 rfl ?_
      refine q_i2b dJ5_append_3fe6f_40 ?_
      obtain ⟨n41, f41, h41, g41, b41, i41, e41, hq⟩ := vsi_e hq
      refine q_bast (t0 := 0) dJ5_append_3fe6f_41 (mv_tB hG) b41 g41 i41 ?_
      rw [← e41]
      show mv_rq l G mJ5_append_3fe6f (d + 1) 42 [some (.ref u0), some (.int u1)] [] h41 _
      refine q_goto (tgt := 75) dJ5_append_3fe6f_42 (by decide) ?_
      refine q_aload_n dJ5_append_3fe6f_75 rfl ?_
      exact q_aret (rt := (.object "java/lang/AbstractStringBuilder")) dJ5_append_3fe6f_76 rfl (Or.inl ⟨_, rfl⟩) (Or.inr ⟨_, rfl⟩) hq
def w_J5_append_3fe6f_45 (l : Launch) (G : mv_G) (d : Nat) (u0 : Nat) (u1 : Int32) (h : mv_H) (Q : mv_O → mv_H → Prop) : Prop :=
  vob h u0 1 (
  mv_rq l G mJ5_isLatin1_aae02 d 0 (mv_in [.ref u0] 1) [] h (vI (fun E h1 => Q (.inr E) h1) (fun x46 h46 =>
  vif (x46 = 0) (
    mv_rq l G mJ5_append_3fe6f (d + 1) 56 [some (.ref u0), some (.int u1)] [] h46 Q) (
    False))))
theorem v_J5_append_3fe6f_45 {l : Launch} {G : mv_G} {d : Nat} {u0 : Nat} {u1 : Int32} {h : mv_H} {Q : mv_O → mv_H → Prop} (hG : mv_ok G) (hq : w_J5_append_3fe6f_45 l G d u0 u1 h Q) : mv_rq l G mJ5_append_3fe6f (d + 1) 45 [some (.ref u0), some (.int u1)] [] h Q := by
  unfold w_J5_append_3fe6f_45 at hq
  refine q_aload_n dJ5_append_3fe6f_45 rfl ?_
  obtain ⟨⟨fs46, f46⟩, hq⟩ := vob_e hq
  refine q_cV (Y := mJ5_isLatin1_aae02) (As := []) (st := []) (b := u0) (ci := 1) vc_J5_isLatin1_aae02 dJ5_append_3fe6f_46 ml_RJ5_83 rfl f46 rfl (Nat.le_of_ble_eq_true rfl) rfl (Nat.le_of_ble_eq_true rfl) hq (fun v h1 hq1 => ?_) (fun E h1 hq1 => ?_)
  rotate_left
  ·
    rcases hq1 with hq1 | ⟨E1, e1, hq1⟩
    · obtain ⟨_, z, _⟩ := hq1; exact nomatch z
    · obtain rfl := Sum.inr.inj e1; exact q_xout (fun z hz => nomatch hz) hq1
  rcases hq1 with hq1 | ⟨E1, e1, hq1⟩
  rotate_left
  · exact nomatch e1
  obtain ⟨x46, hv, hq⟩ := hq1
  obtain rfl := Sum.inl.inj hv
  clear hv
  obtain ⟨h46, eh46⟩ : ∃ z, z = h1 := ⟨_, rfl⟩
  rw [← eh46] at hq ⊢
  clear eh46
  show mv_rq l G mJ5_append_3fe6f (d + 1) 49 [some (.ref u0), some (.int u1)] [.int x46] h46 _
  refine q_if_eq (tgt := 56) dJ5_append_3fe6f_49 (by decide) (fun c49 => ?_) (fun c49 => ?_)
  ·
    have hq := vif_t hq c49
    exact mv_weak (A := [some (.ref u0), some (.int u1)]) (by repeat' constructor) hq
  ·
    have hq := vif_f hq c49
    refine q_aload_n dJ5_append_3fe6f_52 rfl ?_
    exact False.elim hq
def w_J5_append_3fe6f_56 (l : Launch) (G : mv_G) (d : Nat) (u0 : Nat) (u1 : Int32) (h : mv_H) (Q : mv_O → mv_H → Prop) : Prop :=
  vgb h u0 1 0 fun x57 =>
  vgi h u0 1 3 fun x62 =>
  vpu G h u0 1 3 (.int (x62 + 1)) fun h68 =>
  False
theorem v_J5_append_3fe6f_56 {l : Launch} {G : mv_G} {d : Nat} {u0 : Nat} {u1 : Int32} {h : mv_H} {Q : mv_O → mv_H → Prop} (hG : mv_ok G) (hq : w_J5_append_3fe6f_56 l G d u0 u1 h Q) : mv_rq l G mJ5_append_3fe6f (d + 1) 56 [some (.ref u0), some (.int u1)] [] h Q := by
  unfold w_J5_append_3fe6f_56 at hq
  refine q_aload_n dJ5_append_3fe6f_56 rfl ?_
  obtain ⟨fs57, x57, f57, g57, hq⟩ := vgb_e hq
  refine q_getf (k := 0) (T := TJ4) (C0 := RJ4) (N := 4) (ci := 1) dJ5_append_3fe6f_57 fl_RJ5_15 rfl uin_RJ4 (by decide) rfl f57 g57 ?_
  refine q_aload_n dJ5_append_3fe6f_60 rfl ?_
  refine q_dup dJ5_append_3fe6f_61 rfl ?_
  obtain ⟨fs62, x62, f62, g62, hq⟩ := vgi_e hq
  refine q_getf (k := 3) (T := TJ4) (C0 := RJ4) (N := 4) (ci := 1) dJ5_append_3fe6f_62 fl_RJ5_79 rfl uin_RJ4 (by decide) rfl f62 g62 ?_
  refine q_dup_x1 dJ5_append_3fe6f_65 rfl rfl ?_
  refine q_iconst (v := 1) dJ5_append_3fe6f_66 (by decide) ?_
  refine q_iadd dJ5_append_3fe6f_67 ?_
  obtain ⟨fs68, h68, f68, b68, l68, e68, hq⟩ := vpu_e hq
  refine q_putf (k := 3) (T := TJ4) (C0 := RJ4) (N := 4) (ci := 1) (ty := .int) tyJ4 tyJ4_ok nmJ4 dJ5_append_3fe6f_68 fl_RJ5_79 rfl uin_RJ4 (by decide) rfl rfl (by decide +kernel) rfl rfl b68 f68 l68 ?_
  rw [← e68]
  show mv_rq l G mJ5_append_3fe6f (d + 1) 71 [some (.ref u0), some (.int u1)] [.int x62, .ref x57] h68 _
  refine q_iload_n dJ5_append_3fe6f_71 rfl ?_
  exact False.elim hq
def w_J5_append_c97b9 (l : Launch) (G : mv_G) (d : Nat) (u0 : Nat) (u1 : Int32) (h : mv_H) (Q : mv_O → mv_H → Prop) : Prop :=
  vgi h u0 1 3 fun x1 =>
  mv_rq l G mJ6_stringSize_0f7a4 d 0 (mv_in [.int u1] 4) [] h (vI (fun E h1 => Q (.inr E) h1) (fun x7 h7 =>
  vob h7 u0 1 (
  mv_rq l G mJ5_ensureCapacityInternal_d00df d 0 (mv_in [.ref u0, .int (x1 + x7)] 3) [] h7 (vU (fun E h1 => Q (.inr E) h1) (fun h14 =>
  vob h14 u0 1 (
  mv_rq l G mJ5_isLatin1_aae02 d 0 (mv_in [.ref u0] 1) [] h14 (vI (fun E h1 => Q (.inr E) h1) (fun x18 h18 =>
  vif (x18 = 0) (
    vgb h18 u0 1 0 fun x41 =>
    False) (
    vgb h18 u0 1 0 fun x27 =>
    mv_rq l G mJ6_getChars_ba4f3 d 0 (mv_in [.int u1, .int (x1 + x7), .ref x27] 7) [] h18 (vI (fun E h1 => Q (.inr E) h1) (fun x30 h30 =>
    mv_rq l G mJ5_append_c97b9 (d + 1) 48 [some (.ref u0), none, none, some (.int (x1 + x7))] [] h30 Q)))))))))))
theorem v_J5_append_c97b9 {l : Launch} {G : mv_G} {d : Nat} {u0 : Nat} {u1 : Int32} {h : mv_H} {Q : mv_O → mv_H → Prop} (hG : mv_ok G) (hq : w_J5_append_c97b9 l G d u0 u1 h Q) : mv_rq l G mJ5_append_c97b9 (d + 1) 0 (mv_in [.ref u0, .int u1] 4) [] h Q := by
  unfold w_J5_append_c97b9 at hq
  show mv_rq l G mJ5_append_c97b9 (d + 1) 0 [some (.ref u0), some (.int u1), none, none] [] h _
  refine q_aload_n dJ5_append_c97b9_0 rfl ?_
  obtain ⟨fs1, x1, f1, g1, hq⟩ := vgi_e hq
  refine q_getf (k := 3) (T := TJ4) (C0 := RJ4) (N := 4) (ci := 1) dJ5_append_c97b9_1 fl_RJ5_79 rfl uin_RJ4 (by decide) rfl f1 g1 ?_
  refine q_istore_n dJ5_append_c97b9_4 (Nat.le_of_ble_eq_true rfl) rfl ?_
  show mv_rq l G mJ5_append_c97b9 (d + 1) 5 [some (.ref u0), some (.int u1), some (.int x1), none] [] h _
  refine q_iload_n dJ5_append_c97b9_5 rfl ?_
  refine q_iload_n dJ5_append_c97b9_6 rfl ?_
  refine q_cS (Y := mJ6_stringSize_0f7a4) (As := [.int u1]) (st := [.int x1]) sc_J6_stringSize_0f7a4 dJ5_append_c97b9_7 ml_RJ5_245 rfl (Nat.le_of_ble_eq_true rfl) rfl (Nat.le_of_ble_eq_true rfl) hq (fun v h1 hq1 => ?_) (fun E h1 hq1 => ?_)
  rotate_left
  ·
    rcases hq1 with hq1 | ⟨E1, e1, hq1⟩
    · obtain ⟨_, z, _⟩ := hq1; exact nomatch z
    · obtain rfl := Sum.inr.inj e1; exact q_xout (fun z hz => nomatch hz) hq1
  rcases hq1 with hq1 | ⟨E1, e1, hq1⟩
  rotate_left
  · exact nomatch e1
  obtain ⟨x7, hv, hq⟩ := hq1
  obtain rfl := Sum.inl.inj hv
  clear hv
  obtain ⟨h7, eh7⟩ : ∃ z, z = h1 := ⟨_, rfl⟩
  rw [← eh7] at hq ⊢
  clear eh7
  show mv_rq l G mJ5_append_c97b9 (d + 1) 10 [some (.ref u0), some (.int u1), some (.int x1), none] [.int x7, .int x1] h7 _
  refine q_iadd dJ5_append_c97b9_10 ?_
  refine q_istore_n dJ5_append_c97b9_11 (Nat.le_of_ble_eq_true rfl) rfl ?_
  show mv_rq l G mJ5_append_c97b9 (d + 1) 12 [some (.ref u0), some (.int u1), some (.int x1), some (.int (x1 + x7))] [] h7 _
  refine q_aload_n dJ5_append_c97b9_12 rfl ?_
  refine q_iload_n dJ5_append_c97b9_13 rfl ?_
  obtain ⟨⟨fs14, f14⟩, hq⟩ := vob_e hq
  refine q_cP (Y := mJ5_ensureCapacityInternal_d00df) (As := [.int (x1 + x7)]) (st := []) (b := u0) (ci := 1) pc_J5_ensureCapacityInternal_d00df dJ5_append_c97b9_14 ml_RJ5_100 rfl f14 rfl (Nat.le_of_ble_eq_true rfl) rfl (Nat.le_of_ble_eq_true rfl) hq (fun v h1 hq1 => ?_) (fun E h1 hq1 => ?_)
  rotate_left
  ·
    rcases hq1 with hq1 | ⟨E1, e1, hq1⟩
    · exact nomatch hq1.1
    · obtain rfl := Sum.inr.inj e1; exact q_xout (fun z hz => nomatch hz) hq1
  rcases hq1 with hq1 | ⟨E1, e1, hq1⟩
  rotate_left
  · exact nomatch e1
  obtain ⟨hv, hq⟩ := hq1
  obtain rfl := Sum.inl.inj hv
  clear hv
  obtain ⟨h14, eh14⟩ : ∃ z, z = h1 := ⟨_, rfl⟩
  rw [← eh14] at hq ⊢
  clear eh14
  show mv_rq l G mJ5_append_c97b9 (d + 1) 17 [some (.ref u0), some (.int u1), some (.int x1), some (.int (x1 + x7))] [] h14 _
  refine q_aload_n dJ5_append_c97b9_17 rfl ?_
  obtain ⟨⟨fs18, f18⟩, hq⟩ := vob_e hq
  refine q_cV (Y := mJ5_isLatin1_aae02) (As := []) (st := []) (b := u0) (ci := 1) vc_J5_isLatin1_aae02 dJ5_append_c97b9_18 ml_RJ5_83 rfl f18 rfl (Nat.le_of_ble_eq_true rfl) rfl (Nat.le_of_ble_eq_true rfl) hq (fun v h1 hq1 => ?_) (fun E h1 hq1 => ?_)
  rotate_left
  ·
    rcases hq1 with hq1 | ⟨E1, e1, hq1⟩
    · obtain ⟨_, z, _⟩ := hq1; exact nomatch z
    · obtain rfl := Sum.inr.inj e1; exact q_xout (fun z hz => nomatch hz) hq1
  rcases hq1 with hq1 | ⟨E1, e1, hq1⟩
  rotate_left
  · exact nomatch e1
  obtain ⟨x18, hv, hq⟩ := hq1
  obtain rfl := Sum.inl.inj hv
  clear hv
  obtain ⟨h18, eh18⟩ : ∃ z, z = h1 := ⟨_, rfl⟩
  rw [← eh18] at hq ⊢
  clear eh18
  show mv_rq l G mJ5_append_c97b9 (d + 1) 21 [some (.ref u0), some (.int u1), some (.int x1), some (.int (x1 + x7))] [.int x18] h18 _
  refine q_if_eq (tgt := 37) dJ5_append_c97b9_21 (by decide) (fun c21 => ?_) (fun c21 => ?_)
  ·
    have hq := vif_t hq c21
    refine q_iload_n dJ5_append_c97b9_37 rfl ?_
    refine q_iload_n dJ5_append_c97b9_38 rfl ?_
    refine q_iload_n dJ5_append_c97b9_39 rfl ?_
    refine q_aload_n dJ5_append_c97b9_40 rfl ?_
    obtain ⟨fs41, x41, f41, g41, hq⟩ := vgb_e hq
    refine q_getf (k := 0) (T := TJ4) (C0 := RJ4) (N := 4) (ci := 1) dJ5_append_c97b9_41 fl_RJ5_15 rfl uin_RJ4 (by decide) rfl f41 g41 ?_
    exact False.elim hq
  ·
    have hq := vif_f hq c21
    refine q_iload_n dJ5_append_c97b9_24 rfl ?_
    refine q_iload_n dJ5_append_c97b9_25 rfl ?_
    refine q_aload_n dJ5_append_c97b9_26 rfl ?_
    obtain ⟨fs27, x27, f27, g27, hq⟩ := vgb_e hq
    refine q_getf (k := 0) (T := TJ4) (C0 := RJ4) (N := 4) (ci := 1) dJ5_append_c97b9_27 fl_RJ5_15 rfl uin_RJ4 (by decide) rfl f27 g27 ?_
    refine q_cS (Y := mJ6_getChars_ba4f3) (As := [.int u1, .int (x1 + x7), .ref x27]) (st := []) sc_J6_getChars_ba4f3 dJ5_append_c97b9_30 ml_RJ5_248 rfl (Nat.le_of_ble_eq_true rfl) rfl (Nat.le_of_ble_eq_true rfl) hq (fun v h1 hq1 => ?_) (fun E h1 hq1 => ?_)
    rotate_left
    ·
      rcases hq1 with hq1 | ⟨E1, e1, hq1⟩
      · obtain ⟨_, z, _⟩ := hq1; exact nomatch z
      · obtain rfl := Sum.inr.inj e1; exact q_xout (fun z hz => nomatch hz) hq1
    rcases hq1 with hq1 | ⟨E1, e1, hq1⟩
    rotate_left
    · exact nomatch e1
    obtain ⟨x30, hv, hq⟩ := hq1
    obtain rfl := Sum.inl.inj hv
    clear hv
    obtain ⟨h30, eh30⟩ : ∃ z, z = h1 := ⟨_, rfl⟩
    rw [← eh30] at hq ⊢
    clear eh30
    show mv_rq l G mJ5_append_c97b9 (d + 1) 33 [some (.ref u0), some (.int u1), some (.int x1), some (.int (x1 + x7))] [.int x30] h30 _
    refine q_pop dJ5_append_c97b9_33 rfl ?_
    refine q_goto (tgt := 48) dJ5_append_c97b9_34 (by decide) ?_
    exact mv_weak (A := [some (.ref u0), none, none, some (.int (x1 + x7))]) (by repeat' constructor) hq
def w_J5_append_c97b9_48 (l : Launch) (G : mv_G) (d : Nat) (u0 : Nat) (u3 : Int32) (h : mv_H) (Q : mv_O → mv_H → Prop) : Prop :=
  vpu G h u0 1 3 (.int u3) fun h50 =>
  Q (.inl (some (.ref u0))) h50
theorem v_J5_append_c97b9_48 {l : Launch} {G : mv_G} {d : Nat} {u0 : Nat} {u3 : Int32} {h : mv_H} {Q : mv_O → mv_H → Prop} (hG : mv_ok G) (hq : w_J5_append_c97b9_48 l G d u0 u3 h Q) : mv_rq l G mJ5_append_c97b9 (d + 1) 48 [some (.ref u0), none, none, some (.int u3)] [] h Q := by
  unfold w_J5_append_c97b9_48 at hq
  refine q_aload_n dJ5_append_c97b9_48 rfl ?_
  refine q_iload_n dJ5_append_c97b9_49 rfl ?_
  obtain ⟨fs50, h50, f50, b50, l50, e50, hq⟩ := vpu_e hq
  refine q_putf (k := 3) (T := TJ4) (C0 := RJ4) (N := 4) (ci := 1) (ty := .int) tyJ4 tyJ4_ok nmJ4 dJ5_append_c97b9_50 fl_RJ5_79 rfl uin_RJ4 (by decide) rfl rfl (by decide +kernel) rfl rfl b50 f50 l50 ?_
  rw [← e50]
  show mv_rq l G mJ5_append_c97b9 (d + 1) 53 [some (.ref u0), none, none, some (.int u3)] [] h50 _
  refine q_aload_n dJ5_append_c97b9_53 rfl ?_
  exact q_aret (rt := (.object "java/lang/AbstractStringBuilder")) dJ5_append_c97b9_54 rfl (Or.inl ⟨_, rfl⟩) (Or.inr ⟨_, rfl⟩) hq
def w_J5_getValue_6d5f1 (l : Launch) (G : mv_G) (d : Nat) (u0 : Nat) (h : mv_H) (Q : mv_O → mv_H → Prop) : Prop :=
  vgb h u0 1 0 fun x1 =>
  Q (.inl (some (.ref x1))) h
theorem v_J5_getValue_6d5f1 {l : Launch} {G : mv_G} {d : Nat} {u0 : Nat} {h : mv_H} {Q : mv_O → mv_H → Prop} (hG : mv_ok G) (hq : w_J5_getValue_6d5f1 l G d u0 h Q) : mv_rq l G mJ5_getValue_6d5f1 d 0 (mv_in [.ref u0] 1) [] h Q := by
  unfold w_J5_getValue_6d5f1 at hq
  show mv_rq l G mJ5_getValue_6d5f1 d 0 [some (.ref u0)] [] h _
  refine q_aload_n dJ5_getValue_6d5f1_0 rfl ?_
  obtain ⟨fs1, x1, f1, g1, hq⟩ := vgb_e hq
  refine q_getf (k := 0) (T := TJ4) (C0 := RJ4) (N := 4) (ci := 1) dJ5_getValue_6d5f1_1 fl_RJ5_15 rfl uin_RJ4 (by decide) rfl f1 g1 ?_
  exact q_aret (rt := (.array .byte)) dJ5_getValue_6d5f1_4 rfl (Or.inr ⟨_, rfl⟩) (Or.inr ⟨_, rfl⟩) hq
def w_J5_isLatin1_aae02 (l : Launch) (G : mv_G) (d : Nat) (u0 : Nat) (h : mv_H) (Q : mv_O → mv_H → Prop) : Prop :=
  vgi h u0 1 1 fun x7 =>
  vif (x7 = 0) (
    Q (.inl (some (.int 1))) h) (
    Q (.inl (some (.int 0))) h)
theorem v_J5_isLatin1_aae02 {l : Launch} {G : mv_G} {d : Nat} {u0 : Nat} {h : mv_H} {Q : mv_O → mv_H → Prop} (hG : mv_ok G) (hq : w_J5_isLatin1_aae02 l G d u0 h Q) : mv_rq l G mJ5_isLatin1_aae02 d 0 (mv_in [.ref u0] 1) [] h Q := by
  unfold w_J5_isLatin1_aae02 at hq
  show mv_rq l G mJ5_isLatin1_aae02 d 0 [some (.ref u0)] [] h _
  refine q_gets dJ5_isLatin1_aae02_0 fl_RJ5_18 rfl hG.2.1 ?_
  refine q_if_eq (tgt := 17) dJ5_isLatin1_aae02_3 (by decide) (fun z => absurd z (by decide)) (fun _ => ?_)
  refine q_aload_n dJ5_isLatin1_aae02_6 rfl ?_
  obtain ⟨fs7, x7, f7, g7, hq⟩ := vgi_e hq
  refine q_getf (k := 1) (T := TJ4) (C0 := RJ4) (N := 4) (ci := 1) dJ5_isLatin1_aae02_7 fl_RJ5_22 rfl uin_RJ4 (by decide) rfl f7 g7 ?_
  refine q_if_ne (tgt := 17) dJ5_isLatin1_aae02_10 (by decide) (fun c10 => ?_) (fun c10 => ?_)
  ·
    have hq := vif_f hq c10
    refine q_iconst (v := 0) dJ5_isLatin1_aae02_17 (by decide) ?_
    exact q_iret (ty := .boolean) dJ5_isLatin1_aae02_18 rfl rfl hq
  ·
    have hq := vif_t hq c10
    refine q_iconst (v := 1) dJ5_isLatin1_aae02_13 (by decide) ?_
    refine q_goto (tgt := 18) dJ5_isLatin1_aae02_14 (by decide) ?_
    exact q_iret (ty := .boolean) dJ5_isLatin1_aae02_18 rfl rfl hq
def w_J5_inflateIfNeededFor_a7421 (l : Launch) (G : mv_G) (d : Nat) (u0 : Nat) (u1 : Nat) (h : mv_H) (Q : mv_O → mv_H → Prop) : Prop :=
  vgi h u0 1 1 fun x7 =>
  vob h u1 0 (
  mv_rq l G mJ0_coder_7d493 d 0 (mv_in [.ref u1] 1) [] h (vI (fun E h1 => Q (.inr E) h1) (fun x11 h11 =>
  vif (x7 = x11) (
    Q (.inl none) h11) (
    False))))
theorem v_J5_inflateIfNeededFor_a7421 {l : Launch} {G : mv_G} {d : Nat} {u0 : Nat} {u1 : Nat} {h : mv_H} {Q : mv_O → mv_H → Prop} (hG : mv_ok G) (hq : w_J5_inflateIfNeededFor_a7421 l G d u0 u1 h Q) : mv_rq l G mJ5_inflateIfNeededFor_a7421 (d + 1) 0 (mv_in [.ref u0, .ref u1] 2) [] h Q := by
  unfold w_J5_inflateIfNeededFor_a7421 at hq
  show mv_rq l G mJ5_inflateIfNeededFor_a7421 (d + 1) 0 [some (.ref u0), some (.ref u1)] [] h _
  refine q_gets dJ5_inflateIfNeededFor_a7421_0 fl_RJ5_18 rfl hG.2.1 ?_
  refine q_if_eq (tgt := 21) dJ5_inflateIfNeededFor_a7421_3 (by decide) (fun z => absurd z (by decide)) (fun _ => ?_)
  refine q_aload_n dJ5_inflateIfNeededFor_a7421_6 rfl ?_
  obtain ⟨fs7, x7, f7, g7, hq⟩ := vgi_e hq
  refine q_getf (k := 1) (T := TJ4) (C0 := RJ4) (N := 4) (ci := 1) dJ5_inflateIfNeededFor_a7421_7 fl_RJ5_22 rfl uin_RJ4 (by decide) rfl f7 g7 ?_
  refine q_aload_n dJ5_inflateIfNeededFor_a7421_10 rfl ?_
  obtain ⟨⟨fs11, f11⟩, hq⟩ := vob_e hq
  refine q_cV (Y := mJ0_coder_7d493) (As := []) (st := [.int x7]) (b := u1) (ci := 0) vc_J0_coder_7d493 dJ5_inflateIfNeededFor_a7421_11 ml_RJ5_40 rfl f11 rfl (Nat.le_of_ble_eq_true rfl) rfl (Nat.le_of_ble_eq_true rfl) hq (fun v h1 hq1 => ?_) (fun E h1 hq1 => ?_)
  rotate_left
  ·
    rcases hq1 with hq1 | ⟨E1, e1, hq1⟩
    · obtain ⟨_, z, _⟩ := hq1; exact nomatch z
    · obtain rfl := Sum.inr.inj e1; exact q_xout (fun z hz => nomatch hz) hq1
  rcases hq1 with hq1 | ⟨E1, e1, hq1⟩
  rotate_left
  · exact nomatch e1
  obtain ⟨x11, hv, hq⟩ := hq1
  obtain rfl := Sum.inl.inj hv
  clear hv
  obtain ⟨h11, eh11⟩ : ∃ z, z = h1 := ⟨_, rfl⟩
  rw [← eh11] at hq ⊢
  clear eh11
  show mv_rq l G mJ5_inflateIfNeededFor_a7421 (d + 1) 14 [some (.ref u0), some (.ref u1)] [.int x11, .int x7] h11 _
  refine q_icmp_eq (tgt := 21) dJ5_inflateIfNeededFor_a7421_14 (by decide) (fun c14 => ?_) (fun c14 => ?_)
  ·
    have hq := vif_t hq c14
    exact q_vret dJ5_inflateIfNeededFor_a7421_21 rfl hq
  ·
    have hq := vif_f hq c14
    refine q_aload_n dJ5_inflateIfNeededFor_a7421_17 rfl ?_
    exact False.elim hq
def w_J5_putStringAt_47b60 (l : Launch) (G : mv_G) (d : Nat) (u0 : Nat) (u1 : Int32) (u2 : Nat) (h : mv_H) (Q : mv_O → mv_H → Prop) : Prop :=
  vob h u0 1 (
  mv_rq l G mJ5_inflateIfNeededFor_a7421 d 0 (mv_in [.ref u0, .ref u2] 2) [] h (vU (fun E h1 => Q (.inr E) h1) (fun h2 =>
  vgb h2 u0 1 0 fun x7 =>
  vgi h2 u0 1 1 fun x12 =>
  vob h2 u2 0 (
  mv_rq l G mJ0_getBytes_840e7 d 0 (mv_in [.ref u2, .ref x7, .int u1, .int x12] 4) [] h2 (vU (fun E h1 => Q (.inr E) h1) (fun h15 =>
  Q (.inl none) h15))))))
theorem v_J5_putStringAt_47b60 {l : Launch} {G : mv_G} {d : Nat} {u0 : Nat} {u1 : Int32} {u2 : Nat} {h : mv_H} {Q : mv_O → mv_H → Prop} (hG : mv_ok G) (hq : w_J5_putStringAt_47b60 l G d u0 u1 u2 h Q) : mv_rq l G mJ5_putStringAt_47b60 (d + 1) 0 (mv_in [.ref u0, .int u1, .ref u2] 3) [] h Q := by
  unfold w_J5_putStringAt_47b60 at hq
  show mv_rq l G mJ5_putStringAt_47b60 (d + 1) 0 [some (.ref u0), some (.int u1), some (.ref u2)] [] h _
  refine q_aload_n dJ5_putStringAt_47b60_0 rfl ?_
  refine q_aload_n dJ5_putStringAt_47b60_1 rfl ?_
  obtain ⟨⟨fs2, f2⟩, hq⟩ := vob_e hq
  refine q_cP (Y := mJ5_inflateIfNeededFor_a7421) (As := [.ref u2]) (st := []) (b := u0) (ci := 1) pc_J5_inflateIfNeededFor_a7421 dJ5_putStringAt_47b60_2 ml_RJ5_397 rfl f2 rfl (Nat.le_of_ble_eq_true rfl) rfl (Nat.le_of_ble_eq_true rfl) hq (fun v h1 hq1 => ?_) (fun E h1 hq1 => ?_)
  rotate_left
  ·
    rcases hq1 with hq1 | ⟨E1, e1, hq1⟩
    · exact nomatch hq1.1
    · obtain rfl := Sum.inr.inj e1; exact q_xout (fun z hz => nomatch hz) hq1
  rcases hq1 with hq1 | ⟨E1, e1, hq1⟩
  rotate_left
  · exact nomatch e1
  obtain ⟨hv, hq⟩ := hq1
  obtain rfl := Sum.inl.inj hv
  clear hv
  obtain ⟨h2, eh2⟩ : ∃ z, z = h1 := ⟨_, rfl⟩
  rw [← eh2] at hq ⊢
  clear eh2
  show mv_rq l G mJ5_putStringAt_47b60 (d + 1) 5 [some (.ref u0), some (.int u1), some (.ref u2)] [] h2 _
  refine q_aload_n dJ5_putStringAt_47b60_5 rfl ?_
  refine q_aload_n dJ5_putStringAt_47b60_6 rfl ?_
  obtain ⟨fs7, x7, f7, g7, hq⟩ := vgb_e hq
  refine q_getf (k := 0) (T := TJ4) (C0 := RJ4) (N := 4) (ci := 1) dJ5_putStringAt_47b60_7 fl_RJ5_15 rfl uin_RJ4 (by decide) rfl f7 g7 ?_
  refine q_iload_n dJ5_putStringAt_47b60_10 rfl ?_
  refine q_aload_n dJ5_putStringAt_47b60_11 rfl ?_
  obtain ⟨fs12, x12, f12, g12, hq⟩ := vgi_e hq
  refine q_getf (k := 1) (T := TJ4) (C0 := RJ4) (N := 4) (ci := 1) dJ5_putStringAt_47b60_12 fl_RJ5_22 rfl uin_RJ4 (by decide) rfl f12 g12 ?_
  obtain ⟨⟨fs15, f15⟩, hq⟩ := vob_e hq
  refine q_cV (Y := mJ0_getBytes_840e7) (As := [.ref x7, .int u1, .int x12]) (st := []) (b := u2) (ci := 0) vc_J0_getBytes_840e7 dJ5_putStringAt_47b60_15 ml_RJ5_399 rfl f15 rfl (Nat.le_of_ble_eq_true rfl) rfl (Nat.le_of_ble_eq_true rfl) hq (fun v h1 hq1 => ?_) (fun E h1 hq1 => ?_)
  rotate_left
  ·
    rcases hq1 with hq1 | ⟨E1, e1, hq1⟩
    · exact nomatch hq1.1
    · obtain rfl := Sum.inr.inj e1; exact q_xout (fun z hz => nomatch hz) hq1
  rcases hq1 with hq1 | ⟨E1, e1, hq1⟩
  rotate_left
  · exact nomatch e1
  obtain ⟨hv, hq⟩ := hq1
  obtain rfl := Sum.inl.inj hv
  clear hv
  obtain ⟨h15, eh15⟩ : ∃ z, z = h1 := ⟨_, rfl⟩
  rw [← eh15] at hq ⊢
  clear eh15
  show mv_rq l G mJ5_putStringAt_47b60 (d + 1) 18 [some (.ref u0), some (.int u1), some (.ref u2)] [] h15 _
  exact q_vret dJ5_putStringAt_47b60_18 rfl hq
def w_J6_getChars_ba4f3 (l : Launch) (G : mv_G) (d : Nat) (u0 : Int32) (u1 : Int32) (u2 : Nat) (h : mv_H) (Q : mv_O → mv_H → Prop) : Prop :=
  vif (0 ≤ u0) (
    mv_rq l G mJ6_getChars_ba4f3 d 12 [some (.int u0), none, some (.ref u2), none, none, some (.int u1), none] [.int 0] h Q) (
    mv_rq l G mJ6_getChars_ba4f3 d 12 [some (.int u0), none, some (.ref u2), none, none, some (.int u1), none] [.int 1] h Q)
theorem v_J6_getChars_ba4f3 {l : Launch} {G : mv_G} {d : Nat} {u0 : Int32} {u1 : Int32} {u2 : Nat} {h : mv_H} {Q : mv_O → mv_H → Prop} (hG : mv_ok G) (hq : w_J6_getChars_ba4f3 l G d u0 u1 u2 h Q) : mv_rq l G mJ6_getChars_ba4f3 d 0 (mv_in [.int u0, .int u1, .ref u2] 7) [] h Q := by
  unfold w_J6_getChars_ba4f3 at hq
  show mv_rq l G mJ6_getChars_ba4f3 d 0 [some (.int u0), some (.int u1), some (.ref u2), none, none, none, none] [] h _
  refine q_iload_n dJ6_getChars_ba4f3_0 rfl ?_
  refine q_istore dJ6_getChars_ba4f3_1 (Nat.le_of_ble_eq_true rfl) rfl ?_
  show mv_rq l G mJ6_getChars_ba4f3 d 3 [some (.int u0), some (.int u1), some (.ref u2), none, none, some (.int u1), none] [] h _
  refine q_iload_n dJ6_getChars_ba4f3_3 rfl ?_
  refine q_if_ge (tgt := 11) dJ6_getChars_ba4f3_4 (by decide) (fun c4 => ?_) (fun c4 => ?_)
  ·
    have hq := vif_t hq c4
    refine q_iconst (v := 0) dJ6_getChars_ba4f3_11 (by decide) ?_
    exact mv_weak (A := [some (.int u0), none, some (.ref u2), none, none, some (.int u1), none]) (by repeat' constructor) hq
  ·
    have hq := vif_f hq c4
    refine q_iconst (v := 1) dJ6_getChars_ba4f3_7 (by decide) ?_
    refine q_goto (tgt := 12) dJ6_getChars_ba4f3_8 (by decide) ?_
    exact mv_weak (A := [some (.int u0), none, some (.ref u2), none, none, some (.int u1), none]) (by repeat' constructor) hq
def w_J6_getChars_ba4f3_12 (l : Launch) (G : mv_G) (d : Nat) (u0 : Int32) (u2 : Nat) (u5 : Int32) (w0 : Int32) (h : mv_H) (Q : mv_O → mv_H → Prop) : Prop :=
  vif (w0 = 0) (
    mv_rq l G mJ6_getChars_ba4f3 d 22 [some (.int (-u0)), none, some (.ref u2), none, none, some (.int u5), some (.int w0)] [] h Q) (
    mv_rq l G mJ6_getChars_ba4f3 d 22 [some (.int u0), none, some (.ref u2), none, none, some (.int u5), some (.int w0)] [] h Q)
theorem v_J6_getChars_ba4f3_12 {l : Launch} {G : mv_G} {d : Nat} {u0 : Int32} {u2 : Nat} {u5 : Int32} {w0 : Int32} {h : mv_H} {Q : mv_O → mv_H → Prop} (hG : mv_ok G) (hq : w_J6_getChars_ba4f3_12 l G d u0 u2 u5 w0 h Q) : mv_rq l G mJ6_getChars_ba4f3 d 12 [some (.int u0), none, some (.ref u2), none, none, some (.int u5), none] [.int w0] h Q := by
  unfold w_J6_getChars_ba4f3_12 at hq
  refine q_istore dJ6_getChars_ba4f3_12 (Nat.le_of_ble_eq_true rfl) rfl ?_
  show mv_rq l G mJ6_getChars_ba4f3 d 14 [some (.int u0), none, some (.ref u2), none, none, some (.int u5), some (.int w0)] [] h _
  refine q_iload dJ6_getChars_ba4f3_14 rfl ?_
  refine q_if_ne (tgt := 22) dJ6_getChars_ba4f3_16 (by decide) (fun c16 => ?_) (fun c16 => ?_)
  ·
    have hq := vif_f hq c16
    exact mv_weak (A := [some (.int u0), none, some (.ref u2), none, none, some (.int u5), some (.int w0)]) (by repeat' constructor) hq
  ·
    have hq := vif_t hq c16
    refine q_iload_n dJ6_getChars_ba4f3_19 rfl ?_
    refine q_ineg dJ6_getChars_ba4f3_20 ?_
    refine q_istore_n dJ6_getChars_ba4f3_21 (Nat.le_of_ble_eq_true rfl) rfl ?_
    show mv_rq l G mJ6_getChars_ba4f3 d 22 [some (.int (-u0)), none, some (.ref u2), none, none, some (.int u5), some (.int w0)] [] h _
    exact mv_weak (A := [some (.int (-u0)), none, some (.ref u2), none, none, some (.int u5), some (.int w0)]) (by repeat' constructor) hq
def w_J6_getChars_ba4f3_22 (l : Launch) (G : mv_G) (d : Nat) (u0 : Int32) (u2 : Nat) (u5 : Int32) (u6 : Int32) (h : mv_H) (Q : mv_O → mv_H → Prop) : Prop :=
  vif ((-100) < u0) (
    vgz G "DigitOnes" fun x78 =>
    vai G h x78 0 (-u0) fun x83 =>
    vsi G h u2 0 (u5 + (-1)) (vp_nar .byte x83) fun h84 =>
    vif ((-9) ≤ u0) (
      mv_rq l G mJ6_getChars_ba4f3 d 104 [none, none, some (.ref u2), none, none, some (.int (u5 + (-1))), some (.int u6)] [] h84 Q) (
      vgz G "DigitTens" fun x97 =>
      vai G h84 x97 0 (-u0) fun x102 =>
      vsi G h84 u2 0 ((u5 + (-1)) + (-1)) (vp_nar .byte x102) fun h103 =>
      mv_rq l G mJ6_getChars_ba4f3 d 104 [none, none, some (.ref u2), none, none, some (.int ((u5 + (-1)) + (-1))), some (.int u6)] [] h103 Q)) (
    vgz G "DigitOnes" fun x49 =>
    vai G h x49 0 (((u0 / 100) * 100) - u0) fun x54 =>
    vsi G h u2 0 (u5 + (-1)) (vp_nar .byte x54) fun h55 =>
    vgz G "DigitTens" fun x62 =>
    vai G h55 x62 0 (((u0 / 100) * 100) - u0) fun x67 =>
    vsi G h55 u2 0 ((u5 + (-1)) + (-1)) (vp_nar .byte x67) fun h68 =>
    mv_rq l G mJ6_getChars_ba4f3 d 22 [some (.int (u0 / 100)), none, some (.ref u2), none, none, some (.int ((u5 + (-1)) + (-1))), some (.int u6)] [] h68 Q)
theorem v_J6_getChars_ba4f3_22 {l : Launch} {G : mv_G} {d : Nat} {u0 : Int32} {u2 : Nat} {u5 : Int32} {u6 : Int32} {h : mv_H} {Q : mv_O → mv_H → Prop} (hG : mv_ok G) (hq : w_J6_getChars_ba4f3_22 l G d u0 u2 u5 u6 h Q) : mv_rq l G mJ6_getChars_ba4f3 d 22 [some (.int u0), none, some (.ref u2), none, none, some (.int u5), some (.int u6)] [] h Q := by
  unfold w_J6_getChars_ba4f3_22 at hq
  refine q_iload_n dJ6_getChars_ba4f3_22 rfl ?_
  refine q_bipush (v := (-100)) dJ6_getChars_ba4f3_23 (by decide) ?_
  refine q_icmp_gt (tgt := 72) dJ6_getChars_ba4f3_25 (by decide) (fun c25 => ?_) (fun c25 => ?_)
  ·
    have hq := vif_t hq c25
    refine q_aload_n dJ6_getChars_ba4f3_72 rfl ?_
    refine q_iinc dJ6_getChars_ba4f3_73 rfl rfl ?_
    show mv_rq l G mJ6_getChars_ba4f3 d 76 [some (.int u0), none, some (.ref u2), none, none, some (.int (u5 + (-1))), some (.int u6)] [.ref u2] h _
    refine q_iload dJ6_getChars_ba4f3_76 rfl ?_
    obtain ⟨x78, z78, hq⟩ := vgz_e hq
    refine q_gets dJ6_getChars_ba4f3_78 fl_RJ6_83 rfl z78 ?_
    show mv_rq l G mJ6_getChars_ba4f3 d 81 [some (.int u0), none, some (.ref u2), none, none, some (.int (u5 + (-1))), some (.int u6)] [.ref x78, .int (u5 + (-1)), .ref u2] h _
    refine q_iload_n dJ6_getChars_ba4f3_81 rfl ?_
    refine q_ineg dJ6_getChars_ba4f3_82 ?_
    obtain ⟨n83, f83, x83, g83, i83, e83, hq⟩ := vai_e hq
    refine q_bald (t0 := 0) dJ6_getChars_ba4f3_83 (mv_tB hG) g83 i83 ?_
    rw [← e83]
    show mv_rq l G mJ6_getChars_ba4f3 d 84 [some (.int u0), none, some (.ref u2), none, none, some (.int (u5 + (-1))), some (.int u6)] [.int x83, .int (u5 + (-1)), .ref u2] h _
    obtain ⟨n84, f84, h84, g84, b84, i84, e84, hq⟩ := vsi_e hq
    refine q_bast (t0 := 0) dJ6_getChars_ba4f3_84 (mv_tB hG) b84 g84 i84 ?_
    rw [← e84]
    show mv_rq l G mJ6_getChars_ba4f3 d 85 [some (.int u0), none, some (.ref u2), none, none, some (.int (u5 + (-1))), some (.int u6)] [] h84 _
    refine q_iload_n dJ6_getChars_ba4f3_85 rfl ?_
    refine q_bipush (v := (-9)) dJ6_getChars_ba4f3_86 (by decide) ?_
    refine q_icmp_ge (tgt := 104) dJ6_getChars_ba4f3_88 (by decide) (fun c88 => ?_) (fun c88 => ?_)
    ·
      have hq := vif_t hq c88
      exact mv_weak (A := [none, none, some (.ref u2), none, none, some (.int (u5 + (-1))), some (.int u6)]) (by repeat' constructor) hq
    ·
      have hq := vif_f hq c88
      refine q_aload_n dJ6_getChars_ba4f3_91 rfl ?_
      refine q_iinc dJ6_getChars_ba4f3_92 rfl rfl ?_
      show mv_rq l G mJ6_getChars_ba4f3 d 95 [some (.int u0), none, some (.ref u2), none, none, some (.int ((u5 + (-1)) + (-1))), some (.int u6)] [.ref u2] h84 _
      refine q_iload dJ6_getChars_ba4f3_95 rfl ?_
      obtain ⟨x97, z97, hq⟩ := vgz_e hq
      refine q_gets dJ6_getChars_ba4f3_97 fl_RJ6_87 rfl z97 ?_
      show mv_rq l G mJ6_getChars_ba4f3 d 100 [some (.int u0), none, some (.ref u2), none, none, some (.int ((u5 + (-1)) + (-1))), some (.int u6)] [.ref x97, .int ((u5 + (-1)) + (-1)), .ref u2] h84 _
      refine q_iload_n dJ6_getChars_ba4f3_100 rfl ?_
      refine q_ineg dJ6_getChars_ba4f3_101 ?_
      obtain ⟨n102, f102, x102, g102, i102, e102, hq⟩ := vai_e hq
      refine q_bald (t0 := 0) dJ6_getChars_ba4f3_102 (mv_tB hG) g102 i102 ?_
      rw [← e102]
      show mv_rq l G mJ6_getChars_ba4f3 d 103 [some (.int u0), none, some (.ref u2), none, none, some (.int ((u5 + (-1)) + (-1))), some (.int u6)] [.int x102, .int ((u5 + (-1)) + (-1)), .ref u2] h84 _
      obtain ⟨n103, f103, h103, g103, b103, i103, e103, hq⟩ := vsi_e hq
      refine q_bast (t0 := 0) dJ6_getChars_ba4f3_103 (mv_tB hG) b103 g103 i103 ?_
      rw [← e103]
      show mv_rq l G mJ6_getChars_ba4f3 d 104 [some (.int u0), none, some (.ref u2), none, none, some (.int ((u5 + (-1)) + (-1))), some (.int u6)] [] h103 _
      exact mv_weak (A := [none, none, some (.ref u2), none, none, some (.int ((u5 + (-1)) + (-1))), some (.int u6)]) (by repeat' constructor) hq
  ·
    have hq := vif_f hq c25
    refine q_iload_n dJ6_getChars_ba4f3_28 rfl ?_
    refine q_bipush (v := 100) dJ6_getChars_ba4f3_29 (by decide) ?_
    refine q_idiv dJ6_getChars_ba4f3_31 (by decide) ?_
    refine q_istore_n dJ6_getChars_ba4f3_32 (Nat.le_of_ble_eq_true rfl) rfl ?_
    show mv_rq l G mJ6_getChars_ba4f3 d 33 [some (.int u0), none, some (.ref u2), some (.int (u0 / 100)), none, some (.int u5), some (.int u6)] [] h _
    refine q_iload_n dJ6_getChars_ba4f3_33 rfl ?_
    refine q_bipush (v := 100) dJ6_getChars_ba4f3_34 (by decide) ?_
    refine q_imul dJ6_getChars_ba4f3_36 ?_
    refine q_iload_n dJ6_getChars_ba4f3_37 rfl ?_
    refine q_isub dJ6_getChars_ba4f3_38 ?_
    refine q_istore dJ6_getChars_ba4f3_39 (Nat.le_of_ble_eq_true rfl) rfl ?_
    show mv_rq l G mJ6_getChars_ba4f3 d 41 [some (.int u0), none, some (.ref u2), some (.int (u0 / 100)), some (.int (((u0 / 100) * 100) - u0)), some (.int u5), some (.int u6)] [] h _
    refine q_iload_n dJ6_getChars_ba4f3_41 rfl ?_
    refine q_istore_n dJ6_getChars_ba4f3_42 (Nat.le_of_ble_eq_true rfl) rfl ?_
    show mv_rq l G mJ6_getChars_ba4f3 d 43 [some (.int (u0 / 100)), none, some (.ref u2), some (.int (u0 / 100)), some (.int (((u0 / 100) * 100) - u0)), some (.int u5), some (.int u6)] [] h _
    refine q_aload_n dJ6_getChars_ba4f3_43 rfl ?_
    refine q_iinc dJ6_getChars_ba4f3_44 rfl rfl ?_
    show mv_rq l G mJ6_getChars_ba4f3 d 47 [some (.int (u0 / 100)), none, some (.ref u2), some (.int (u0 / 100)), some (.int (((u0 / 100) * 100) - u0)), some (.int (u5 + (-1))), some (.int u6)] [.ref u2] h _
    refine q_iload dJ6_getChars_ba4f3_47 rfl ?_
    obtain ⟨x49, z49, hq⟩ := vgz_e hq
    refine q_gets dJ6_getChars_ba4f3_49 fl_RJ6_83 rfl z49 ?_
    show mv_rq l G mJ6_getChars_ba4f3 d 52 [some (.int (u0 / 100)), none, some (.ref u2), some (.int (u0 / 100)), some (.int (((u0 / 100) * 100) - u0)), some (.int (u5 + (-1))), some (.int u6)] [.ref x49, .int (u5 + (-1)), .ref u2] h _
    refine q_iload dJ6_getChars_ba4f3_52 rfl ?_
    obtain ⟨n54, f54, x54, g54, i54, e54, hq⟩ := vai_e hq
    refine q_bald (t0 := 0) dJ6_getChars_ba4f3_54 (mv_tB hG) g54 i54 ?_
    rw [← e54]
    show mv_rq l G mJ6_getChars_ba4f3 d 55 [some (.int (u0 / 100)), none, some (.ref u2), some (.int (u0 / 100)), some (.int (((u0 / 100) * 100) - u0)), some (.int (u5 + (-1))), some (.int u6)] [.int x54, .int (u5 + (-1)), .ref u2] h _
    obtain ⟨n55, f55, h55, g55, b55, i55, e55, hq⟩ := vsi_e hq
    refine q_bast (t0 := 0) dJ6_getChars_ba4f3_55 (mv_tB hG) b55 g55 i55 ?_
    rw [← e55]
    show mv_rq l G mJ6_getChars_ba4f3 d 56 [some (.int (u0 / 100)), none, some (.ref u2), some (.int (u0 / 100)), some (.int (((u0 / 100) * 100) - u0)), some (.int (u5 + (-1))), some (.int u6)] [] h55 _
    refine q_aload_n dJ6_getChars_ba4f3_56 rfl ?_
    refine q_iinc dJ6_getChars_ba4f3_57 rfl rfl ?_
    show mv_rq l G mJ6_getChars_ba4f3 d 60 [some (.int (u0 / 100)), none, some (.ref u2), some (.int (u0 / 100)), some (.int (((u0 / 100) * 100) - u0)), some (.int ((u5 + (-1)) + (-1))), some (.int u6)] [.ref u2] h55 _
    refine q_iload dJ6_getChars_ba4f3_60 rfl ?_
    obtain ⟨x62, z62, hq⟩ := vgz_e hq
    refine q_gets dJ6_getChars_ba4f3_62 fl_RJ6_87 rfl z62 ?_
    show mv_rq l G mJ6_getChars_ba4f3 d 65 [some (.int (u0 / 100)), none, some (.ref u2), some (.int (u0 / 100)), some (.int (((u0 / 100) * 100) - u0)), some (.int ((u5 + (-1)) + (-1))), some (.int u6)] [.ref x62, .int ((u5 + (-1)) + (-1)), .ref u2] h55 _
    refine q_iload dJ6_getChars_ba4f3_65 rfl ?_
    obtain ⟨n67, f67, x67, g67, i67, e67, hq⟩ := vai_e hq
    refine q_bald (t0 := 0) dJ6_getChars_ba4f3_67 (mv_tB hG) g67 i67 ?_
    rw [← e67]
    show mv_rq l G mJ6_getChars_ba4f3 d 68 [some (.int (u0 / 100)), none, some (.ref u2), some (.int (u0 / 100)), some (.int (((u0 / 100) * 100) - u0)), some (.int ((u5 + (-1)) + (-1))), some (.int u6)] [.int x67, .int ((u5 + (-1)) + (-1)), .ref u2] h55 _
    obtain ⟨n68, f68, h68, g68, b68, i68, e68, hq⟩ := vsi_e hq
    refine q_bast (t0 := 0) dJ6_getChars_ba4f3_68 (mv_tB hG) b68 g68 i68 ?_
    rw [← e68]
    show mv_rq l G mJ6_getChars_ba4f3 d 69 [some (.int (u0 / 100)), none, some (.ref u2), some (.int (u0 / 100)), some (.int (((u0 / 100) * 100) - u0)), some (.int ((u5 + (-1)) + (-1))), some (.int u6)] [] h68 _
    refine q_goto (tgt := 22) dJ6_getChars_ba4f3_69 (by decide) ?_
    exact mv_weak (A := [some (.int (u0 / 100)), none, some (.ref u2), none, none, some (.int ((u5 + (-1)) + (-1))), some (.int u6)]) (by repeat' constructor) hq
def w_J6_getChars_ba4f3_104 (l : Launch) (G : mv_G) (d : Nat) (u2 : Nat) (u5 : Int32) (u6 : Int32) (h : mv_H) (Q : mv_O → mv_H → Prop) : Prop :=
  vif (u6 = 0) (
    Q (.inl (some (.int u5))) h) (
    vsi G h u2 0 (u5 + (-1)) (vp_nar .byte 45) fun h117 =>
    Q (.inl (some (.int (u5 + (-1))))) h117)
theorem v_J6_getChars_ba4f3_104 {l : Launch} {G : mv_G} {d : Nat} {u2 : Nat} {u5 : Int32} {u6 : Int32} {h : mv_H} {Q : mv_O → mv_H → Prop} (hG : mv_ok G) (hq : w_J6_getChars_ba4f3_104 l G d u2 u5 u6 h Q) : mv_rq l G mJ6_getChars_ba4f3 d 104 [none, none, some (.ref u2), none, none, some (.int u5), some (.int u6)] [] h Q := by
  unfold w_J6_getChars_ba4f3_104 at hq
  refine q_iload dJ6_getChars_ba4f3_104 rfl ?_
  refine q_if_eq (tgt := 118) dJ6_getChars_ba4f3_106 (by decide) (fun c106 => ?_) (fun c106 => ?_)
  ·
    have hq := vif_t hq c106
    refine q_iload dJ6_getChars_ba4f3_118 rfl ?_
    exact q_iret (ty := .int) dJ6_getChars_ba4f3_120 rfl rfl hq
  ·
    have hq := vif_f hq c106
    refine q_aload_n dJ6_getChars_ba4f3_109 rfl ?_
    refine q_iinc dJ6_getChars_ba4f3_110 rfl rfl ?_
    show mv_rq l G mJ6_getChars_ba4f3 d 113 [none, none, some (.ref u2), none, none, some (.int (u5 + (-1))), some (.int u6)] [.ref u2] h _
    refine q_iload dJ6_getChars_ba4f3_113 rfl ?_
    refine q_bipush (v := 45) dJ6_getChars_ba4f3_115 (by decide) ?_
    obtain ⟨n117, f117, h117, g117, b117, i117, e117, hq⟩ := vsi_e hq
    refine q_bast (t0 := 0) dJ6_getChars_ba4f3_117 (mv_tB hG) b117 g117 i117 ?_
    rw [← e117]
    show mv_rq l G mJ6_getChars_ba4f3 d 118 [none, none, some (.ref u2), none, none, some (.int (u5 + (-1))), some (.int u6)] [] h117 _
    refine q_iload dJ6_getChars_ba4f3_118 rfl ?_
    exact q_iret (ty := .int) dJ6_getChars_ba4f3_120 rfl rfl hq
def w_J6_stringSize_0f7a4 (l : Launch) (G : mv_G) (d : Nat) (u0 : Int32) (h : mv_H) (Q : mv_O → mv_H → Prop) : Prop :=
  vif (u0 < 0) (
    mv_rq l G mJ6_stringSize_0f7a4 d 11 [some (.int u0), some (.int 1), none, none] [] h Q) (
    mv_rq l G mJ6_stringSize_0f7a4 d 11 [some (.int (-u0)), some (.int 0), none, none] [] h Q)
theorem v_J6_stringSize_0f7a4 {l : Launch} {G : mv_G} {d : Nat} {u0 : Int32} {h : mv_H} {Q : mv_O → mv_H → Prop} (hG : mv_ok G) (hq : w_J6_stringSize_0f7a4 l G d u0 h Q) : mv_rq l G mJ6_stringSize_0f7a4 d 0 (mv_in [.int u0] 4) [] h Q := by
  unfold w_J6_stringSize_0f7a4 at hq
  show mv_rq l G mJ6_stringSize_0f7a4 d 0 [some (.int u0), none, none, none] [] h _
  refine q_iconst (v := 1) dJ6_stringSize_0f7a4_0 (by decide) ?_
  refine q_istore_n dJ6_stringSize_0f7a4_1 (Nat.le_of_ble_eq_true rfl) rfl ?_
  show mv_rq l G mJ6_stringSize_0f7a4 d 2 [some (.int u0), some (.int 1), none, none] [] h _
  refine q_iload_n dJ6_stringSize_0f7a4_2 rfl ?_
  refine q_if_lt (tgt := 11) dJ6_stringSize_0f7a4_3 (by decide) (fun c3 => ?_) (fun c3 => ?_)
  ·
    have hq := vif_t hq c3
    exact mv_weak (A := [some (.int u0), some (.int 1), none, none]) (by repeat' constructor) hq
  ·
    have hq := vif_f hq c3
    refine q_iconst (v := 0) dJ6_stringSize_0f7a4_6 (by decide) ?_
    refine q_istore_n dJ6_stringSize_0f7a4_7 (Nat.le_of_ble_eq_true rfl) rfl ?_
    show mv_rq l G mJ6_stringSize_0f7a4 d 8 [some (.int u0), some (.int 0), none, none] [] h _
    refine q_iload_n dJ6_stringSize_0f7a4_8 rfl ?_
    refine q_ineg dJ6_stringSize_0f7a4_9 ?_
    refine q_istore_n dJ6_stringSize_0f7a4_10 (Nat.le_of_ble_eq_true rfl) rfl ?_
    show mv_rq l G mJ6_stringSize_0f7a4 d 11 [some (.int (-u0)), some (.int 0), none, none] [] h _
    exact mv_weak (A := [some (.int (-u0)), some (.int 0), none, none]) (by repeat' constructor) hq
def w_J6_stringSize_0f7a4_11 (l : Launch) (G : mv_G) (d : Nat) (u0 : Int32) (u1 : Int32) (h : mv_H) (Q : mv_O → mv_H → Prop) : Prop :=
  mv_rq l G mJ6_stringSize_0f7a4 d 16 [some (.int u0), some (.int u1), some (.int (-10)), some (.int 1)] [] h Q
theorem v_J6_stringSize_0f7a4_11 {l : Launch} {G : mv_G} {d : Nat} {u0 : Int32} {u1 : Int32} {h : mv_H} {Q : mv_O → mv_H → Prop} (hG : mv_ok G) (hq : w_J6_stringSize_0f7a4_11 l G d u0 u1 h Q) : mv_rq l G mJ6_stringSize_0f7a4 d 11 [some (.int u0), some (.int u1), none, none] [] h Q := by
  unfold w_J6_stringSize_0f7a4_11 at hq
  refine q_bipush (v := (-10)) dJ6_stringSize_0f7a4_11 (by decide) ?_
  refine q_istore_n dJ6_stringSize_0f7a4_13 (Nat.le_of_ble_eq_true rfl) rfl ?_
  show mv_rq l G mJ6_stringSize_0f7a4 d 14 [some (.int u0), some (.int u1), some (.int (-10)), none] [] h _
  refine q_iconst (v := 1) dJ6_stringSize_0f7a4_14 (by decide) ?_
  refine q_istore_n dJ6_stringSize_0f7a4_15 (Nat.le_of_ble_eq_true rfl) rfl ?_
  show mv_rq l G mJ6_stringSize_0f7a4 d 16 [some (.int u0), some (.int u1), some (.int (-10)), some (.int 1)] [] h _
  exact mv_weak (A := [some (.int u0), some (.int u1), some (.int (-10)), some (.int 1)]) (by repeat' constructor) hq
def w_J6_stringSize_0f7a4_16 (l : Launch) (G : mv_G) (d : Nat) (u0 : Int32) (u1 : Int32) (u2 : Int32) (u3 : Int32) (h : mv_H) (Q : mv_O → mv_H → Prop) : Prop :=
  vif (10 ≤ u3) (
    Q (.inl (some (.int (10 + u1)))) h) (
    vif (u0 ≤ u2) (
      mv_rq l G mJ6_stringSize_0f7a4 d 16 [some (.int u0), some (.int u1), some (.int (10 * u2)), some (.int (u3 + 1))] [] h Q) (
      Q (.inl (some (.int (u3 + u1)))) h))
theorem v_J6_stringSize_0f7a4_16 {l : Launch} {G : mv_G} {d : Nat} {u0 : Int32} {u1 : Int32} {u2 : Int32} {u3 : Int32} {h : mv_H} {Q : mv_O → mv_H → Prop} (hG : mv_ok G) (hq : w_J6_stringSize_0f7a4_16 l G d u0 u1 u2 u3 h Q) : mv_rq l G mJ6_stringSize_0f7a4 d 16 [some (.int u0), some (.int u1), some (.int u2), some (.int u3)] [] h Q := by
  unfold w_J6_stringSize_0f7a4_16 at hq
  refine q_iload_n dJ6_stringSize_0f7a4_16 rfl ?_
  refine q_bipush (v := 10) dJ6_stringSize_0f7a4_17 (by decide) ?_
  refine q_icmp_ge (tgt := 42) dJ6_stringSize_0f7a4_19 (by decide) (fun c19 => ?_) (fun c19 => ?_)
  ·
    have hq := vif_t hq c19
    refine q_bipush (v := 10) dJ6_stringSize_0f7a4_42 (by decide) ?_
    refine q_iload_n dJ6_stringSize_0f7a4_44 rfl ?_
    refine q_iadd dJ6_stringSize_0f7a4_45 ?_
    exact q_iret (ty := .int) dJ6_stringSize_0f7a4_46 rfl rfl hq
  ·
    have hq := vif_f hq c19
    refine q_iload_n dJ6_stringSize_0f7a4_22 rfl ?_
    refine q_iload_n dJ6_stringSize_0f7a4_23 rfl ?_
    refine q_icmp_le (tgt := 31) dJ6_stringSize_0f7a4_24 (by decide) (fun c24 => ?_) (fun c24 => ?_)
    ·
      have hq := vif_t hq c24
      refine q_bipush (v := 10) dJ6_stringSize_0f7a4_31 (by decide) ?_
      refine q_iload_n dJ6_stringSize_0f7a4_33 rfl ?_
      refine q_imul dJ6_stringSize_0f7a4_34 ?_
      refine q_istore_n dJ6_stringSize_0f7a4_35 (Nat.le_of_ble_eq_true rfl) rfl ?_
      show mv_rq l G mJ6_stringSize_0f7a4 d 36 [some (.int u0), some (.int u1), some (.int (10 * u2)), some (.int u3)] [] h _
      refine q_iinc dJ6_stringSize_0f7a4_36 rfl rfl ?_
      show mv_rq l G mJ6_stringSize_0f7a4 d 39 [some (.int u0), some (.int u1), some (.int (10 * u2)), some (.int (u3 + 1))] [] h _
      refine q_goto (tgt := 16) dJ6_stringSize_0f7a4_39 (by decide) ?_
      exact mv_weak (A := [some (.int u0), some (.int u1), some (.int (10 * u2)), some (.int (u3 + 1))]) (by repeat' constructor) hq
    ·
      have hq := vif_f hq c24
      refine q_iload_n dJ6_stringSize_0f7a4_27 rfl ?_
      refine q_iload_n dJ6_stringSize_0f7a4_28 rfl ?_
      refine q_iadd dJ6_stringSize_0f7a4_29 ?_
      exact q_iret (ty := .int) dJ6_stringSize_0f7a4_30 rfl rfl hq
def w_J0_init_81219 (l : Launch) (G : mv_G) (d : Nat) (u0 : Nat) (u1 : Nat) (h : mv_H) (Q : mv_O → mv_H → Prop) : Prop :=
  mv_rq l G mJ0_init_db425 d 0 (mv_in [.ref u0, .ref u1, .null] 5) [] h (vU (fun E h1 => Q (.inr E) h1) (fun h3 =>
  Q (.inl none) h3))
theorem v_J0_init_81219 {l : Launch} {G : mv_G} {d : Nat} {u0 : Nat} {u1 : Nat} {h : mv_H} {Q : mv_O → mv_H → Prop} (hG : mv_ok G) (hq : w_J0_init_81219 l G d u0 u1 h Q) : mv_rq l G mJ0_init_81219 (d + 1) 0 (mv_in [.ref u0, .ref u1] 2) [] h Q := by
  unfold w_J0_init_81219 at hq
  show mv_rq l G mJ0_init_81219 (d + 1) 0 [some (.ref u0), some (.ref u1)] [] h _
  refine q_aload_n dJ0_init_81219_0 rfl ?_
  refine q_aload_n dJ0_init_81219_1 rfl ?_
  refine q_null dJ0_init_81219_2 ?_
  refine q_cI (Y := mJ0_init_db425) (As := [.ref u1, .null]) (st := []) (b := u0) ic_J0_init_db425 dJ0_init_81219_3 ml_RJ0_489 rfl (Nat.le_of_ble_eq_true rfl) rfl (Nat.le_of_ble_eq_true rfl) hq (fun v h1 hq1 => ?_) (fun E h1 hq1 => ?_)
  rotate_left
  ·
    rcases hq1 with hq1 | ⟨E1, e1, hq1⟩
    · exact nomatch hq1.1
    · obtain rfl := Sum.inr.inj e1; exact q_xout (fun z hz => nomatch hz) hq1
  rcases hq1 with hq1 | ⟨E1, e1, hq1⟩
  rotate_left
  · exact nomatch e1
  obtain ⟨hv, hq⟩ := hq1
  obtain rfl := Sum.inl.inj hv
  clear hv
  obtain ⟨h3, eh3⟩ : ∃ z, z = h1 := ⟨_, rfl⟩
  rw [← eh3] at hq ⊢
  clear eh3
  show mv_rq l G mJ0_init_81219 (d + 1) 6 [some (.ref u0), some (.ref u1)] [] h3 _
  exact q_vret dJ0_init_81219_6 rfl hq
def w_J0_init_db425 (l : Launch) (G : mv_G) (d : Nat) (u0 : Nat) (u1 : Nat) (u2 : Option Nat) (h : mv_H) (Q : mv_O → mv_H → Prop) : Prop :=
  vob h u1 1 (
  mv_rq l G mJ5_getValue_6d5f1 d 0 (mv_in [.ref u1] 1) [] h (vB (fun E h1 => Q (.inr E) h1) (fun x5 h5 =>
  vob h5 u1 1 (
  mv_rq l G mJ4_length_8abf5 d 0 (mv_in [.ref u1] 1) [] h5 (vI (fun E h1 => Q (.inr E) h1) (fun x10 h10 =>
  vob h10 u1 1 (
  mv_rq l G mJ5_isLatin1_aae02 d 0 (mv_in [.ref u1] 1) [] h10 (vI (fun E h1 => Q (.inr E) h1) (fun x16 h16 =>
  vif (x16 = 0) (
    vgi h16 u1 1 2 fun x48 =>
    vif (x48 = 0) (
      mv_rq l G mJ0_init_db425 (d + 1) 79 [some (.ref u0), none, none, some (.ref x5), some (.int x10)] [] h16 Q) (
      False)) (
    vpu G h16 u0 0 1 (.int 0) fun h24 =>
    mv_rq l G mJ7_copyOfRange_39247 d 0 (mv_in [.ref x5, .int 0, .int x10] 3) [] h24 (vB (fun E h1 => Q (.inr E) h1) (fun x32 h32 =>
    vpu G h32 u0 0 0 (.ref x32) fun h35 =>
    Q (.inl none) h35))))))))))))
theorem v_J0_init_db425 {l : Launch} {G : mv_G} {d : Nat} {u0 : Nat} {u1 : Nat} {u2 : Option Nat} {h : mv_H} {Q : mv_O → mv_H → Prop} (hG : mv_ok G) (hq : w_J0_init_db425 l G d u0 u1 u2 h Q) : mv_rq l G mJ0_init_db425 (d + 1) 0 (mv_in [.ref u0, .ref u1, va_rf u2] 5) [] h Q := by
  unfold w_J0_init_db425 at hq
  rw [show mv_in [.ref u0, .ref u1, va_rf u2] 5 = [some (.ref u0), some (.ref u1), some (va_rf u2), none, none] by cases u2 <;> rfl]
  show mv_rq l G mJ0_init_db425 (d + 1) 0 [some (.ref u0), some (.ref u1), some (va_rf u2), none, none] [] h _
  refine q_aload_n dJ0_init_db425_0 rfl ?_
  refine q_objI dJ0_init_db425_1 ml_RJ0_1 obj_in obj_co rfl (Nat.le_of_ble_eq_true rfl) ?_
  refine q_aload_n dJ0_init_db425_4 rfl ?_
  obtain ⟨⟨fs5, f5⟩, hq⟩ := vob_e hq
  refine q_cV (Y := mJ5_getValue_6d5f1) (As := []) (st := []) (b := u1) (ci := 1) vc_J5_getValue_6d5f1 dJ0_init_db425_5 ml_RJ0_552 rfl f5 rfl (Nat.le_of_ble_eq_true rfl) rfl (Nat.le_of_ble_eq_true rfl) hq (fun v h1 hq1 => ?_) (fun E h1 hq1 => ?_)
  rotate_left
  ·
    rcases hq1 with hq1 | ⟨E1, e1, hq1⟩
    · obtain ⟨_, z, _⟩ := hq1; exact nomatch z
    · obtain rfl := Sum.inr.inj e1; exact q_xout (fun z hz => nomatch hz) hq1
  rcases hq1 with hq1 | ⟨E1, e1, hq1⟩
  rotate_left
  · exact nomatch e1
  obtain ⟨x5, hv, hq⟩ := hq1
  obtain rfl := Sum.inl.inj hv
  clear hv
  obtain ⟨h5, eh5⟩ : ∃ z, z = h1 := ⟨_, rfl⟩
  rw [← eh5] at hq ⊢
  clear eh5
  show mv_rq l G mJ0_init_db425 (d + 1) 8 [some (.ref u0), some (.ref u1), some (va_rf u2), none, none] [.ref x5] h5 _
  refine q_astore_n dJ0_init_db425_8 (Nat.le_of_ble_eq_true rfl) (by cases u2 <;> rfl) ?_
  show mv_rq l G mJ0_init_db425 (d + 1) 9 [some (.ref u0), some (.ref u1), some (va_rf u2), some (.ref x5), none] [] h5 _
  refine q_aload_n dJ0_init_db425_9 rfl ?_
  obtain ⟨⟨fs10, f10⟩, hq⟩ := vob_e hq
  refine q_cLen (As := []) (st := []) (b := u1) (ci := 1)  dJ0_init_db425_10 ml_RJ0_549 rfl f10 rfl (Nat.le_of_ble_eq_true rfl) rfl (Nat.le_of_ble_eq_true rfl) hq (fun v h1 hq1 => ?_) (fun E h1 hq1 => ?_)
  rotate_left
  ·
    rcases hq1 with hq1 | ⟨E1, e1, hq1⟩
    · obtain ⟨_, z, _⟩ := hq1; exact nomatch z
    · obtain rfl := Sum.inr.inj e1; exact q_xout (fun z hz => nomatch hz) hq1
  rcases hq1 with hq1 | ⟨E1, e1, hq1⟩
  rotate_left
  · exact nomatch e1
  obtain ⟨x10, hv, hq⟩ := hq1
  obtain rfl := Sum.inl.inj hv
  clear hv
  obtain ⟨h10, eh10⟩ : ∃ z, z = h1 := ⟨_, rfl⟩
  rw [← eh10] at hq ⊢
  clear eh10
  show mv_rq l G mJ0_init_db425 (d + 1) 13 [some (.ref u0), some (.ref u1), some (va_rf u2), some (.ref x5), none] [.int x10] h10 _
  refine q_istore dJ0_init_db425_13 (Nat.le_of_ble_eq_true rfl) rfl ?_
  show mv_rq l G mJ0_init_db425 (d + 1) 15 [some (.ref u0), some (.ref u1), some (va_rf u2), some (.ref x5), some (.int x10)] [] h10 _
  refine q_aload_n dJ0_init_db425_15 rfl ?_
  obtain ⟨⟨fs16, f16⟩, hq⟩ := vob_e hq
  refine q_cV (Y := mJ5_isLatin1_aae02) (As := []) (st := []) (b := u1) (ci := 1) vc_J5_isLatin1_aae02 dJ0_init_db425_16 ml_RJ0_1047 rfl f16 rfl (Nat.le_of_ble_eq_true rfl) rfl (Nat.le_of_ble_eq_true rfl) hq (fun v h1 hq1 => ?_) (fun E h1 hq1 => ?_)
  rotate_left
  ·
    rcases hq1 with hq1 | ⟨E1, e1, hq1⟩
    · obtain ⟨_, z, _⟩ := hq1; exact nomatch z
    · obtain rfl := Sum.inr.inj e1; exact q_xout (fun z hz => nomatch hz) hq1
  rcases hq1 with hq1 | ⟨E1, e1, hq1⟩
  rotate_left
  · exact nomatch e1
  obtain ⟨x16, hv, hq⟩ := hq1
  obtain rfl := Sum.inl.inj hv
  clear hv
  obtain ⟨h16, eh16⟩ : ∃ z, z = h1 := ⟨_, rfl⟩
  rw [← eh16] at hq ⊢
  clear eh16
  show mv_rq l G mJ0_init_db425 (d + 1) 19 [some (.ref u0), some (.ref u1), some (va_rf u2), some (.ref x5), some (.int x10)] [.int x16] h16 _
  refine q_if_eq (tgt := 41) dJ0_init_db425_19 (by decide) (fun c19 => ?_) (fun c19 => ?_)
  ·
    have hq := vif_t hq c19
    refine q_gets dJ0_init_db425_41 fl_RJ0_38 rfl hG.2.1 ?_
    refine q_if_eq (tgt := 79) dJ0_init_db425_44 (by decide) (fun z => absurd z (by decide)) (fun _ => ?_)
    refine q_aload_n dJ0_init_db425_47 rfl ?_
    obtain ⟨fs48, x48, f48, g48, hq⟩ := vgi_e hq
    refine q_getf (k := 2) (T := TJ4) (C0 := RJ4) (N := 4) (ci := 1) dJ0_init_db425_48 fl_RJ0_1048 rfl uin_RJ4 (by decide) rfl f48 g48 ?_
    refine q_if_eq (tgt := 79) dJ0_init_db425_51 (by decide) (fun c51 => ?_) (fun c51 => ?_)
    ·
      have hq := vif_t hq c51
      exact mv_weak (A := [some (.ref u0), none, none, some (.ref x5), some (.int x10)]) (by repeat' constructor) hq
    ·
      have hq := vif_f hq c51
      refine q_aload_n dJ0_init_db425_54 rfl ?_
      refine q_aload_n dJ0_init_db425_55 rfl ?_
      refine q_iconst (v := 0) dJ0_init_db425_56 (by decide) ?_
      refine q_iload dJ0_init_db425_57 rfl ?_
      exact False.elim hq
  ·
    have hq := vif_f hq c19
    refine q_aload_n dJ0_init_db425_22 rfl ?_
    refine q_iconst (v := 0) dJ0_init_db425_23 (by decide) ?_
    obtain ⟨fs24, h24, f24, b24, l24, e24, hq⟩ := vpu_e hq
    refine q_putF (k := 1) (T := TJ0) (C0 := RJ0) (N := 4) (ci := 0) (ty := .byte) tyJ0 tyJ0_ok nmJ0 dJ0_init_db425_24 fl_RJ0_15 rfl uin_RJ0 (by decide) rfl rfl rfl rfl (by decide +kernel) rfl rfl b24 f24 l24 ?_
    rw [← e24]
    show mv_rq l G mJ0_init_db425 (d + 1) 27 [some (.ref u0), some (.ref u1), some (va_rf u2), some (.ref x5), some (.int x10)] [] h24 _
    refine q_aload_n dJ0_init_db425_27 rfl ?_
    refine q_aload_n dJ0_init_db425_28 rfl ?_
    refine q_iconst (v := 0) dJ0_init_db425_29 (by decide) ?_
    refine q_iload dJ0_init_db425_30 rfl ?_
    refine q_cS (Y := mJ7_copyOfRange_39247) (As := [.ref x5, .int 0, .int x10]) (st := [.ref u0]) sc_J7_copyOfRange_39247 dJ0_init_db425_32 ml_RJ0_54 rfl (Nat.le_of_ble_eq_true rfl) rfl (Nat.le_of_ble_eq_true rfl) hq (fun v h1 hq1 => ?_) (fun E h1 hq1 => ?_)
    rotate_left
    ·
      rcases hq1 with hq1 | ⟨E1, e1, hq1⟩
      · obtain ⟨_, z, _⟩ := hq1; exact nomatch z
      · obtain rfl := Sum.inr.inj e1; exact q_xout (fun z hz => nomatch hz) hq1
    rcases hq1 with hq1 | ⟨E1, e1, hq1⟩
    rotate_left
    · exact nomatch e1
    obtain ⟨x32, hv, hq⟩ := hq1
    obtain rfl := Sum.inl.inj hv
    clear hv
    obtain ⟨h32, eh32⟩ : ∃ z, z = h1 := ⟨_, rfl⟩
    rw [← eh32] at hq ⊢
    clear eh32
    show mv_rq l G mJ0_init_db425 (d + 1) 35 [some (.ref u0), some (.ref u1), some (va_rf u2), some (.ref x5), some (.int x10)] [.ref x32, .ref u0] h32 _
    obtain ⟨fs35, h35, f35, b35, l35, e35, hq⟩ := vpu_e hq
    refine q_putF (k := 0) (T := TJ0) (C0 := RJ0) (N := 4) (ci := 0) (ty := (.array .byte)) tyJ0 tyJ0_ok nmJ0 dJ0_init_db425_35 fl_RJ0_9 rfl uin_RJ0 (by decide) rfl rfl rfl rfl (by decide +kernel) rfl rfl b35 f35 l35 ?_
    rw [← e35]
    show mv_rq l G mJ0_init_db425 (d + 1) 38 [some (.ref u0), some (.ref u1), some (va_rf u2), some (.ref x5), some (.int x10)] [] h35 _
    refine q_goto (tgt := 97) dJ0_init_db425_38 (by decide) ?_
    exact q_vret dJ0_init_db425_97 rfl hq
def w_J0_init_db425_79 (l : Launch) (G : mv_G) (d : Nat) (u0 : Nat) (u3 : Nat) (u4 : Int32) (h : mv_H) (Q : mv_O → mv_H → Prop) : Prop :=
  vpu G h u0 0 1 (.int 1) fun h81 =>
  mv_rq l G mJ7_copyOfRange_39247 d 0 (mv_in [.ref u3, .int 0, .int (u4 <<< (1 &&& 31))] 3) [] h81 (vB (fun E h1 => Q (.inr E) h1) (fun x91 h91 =>
  vpu G h91 u0 0 0 (.ref x91) fun h94 =>
  Q (.inl none) h94))
theorem v_J0_init_db425_79 {l : Launch} {G : mv_G} {d : Nat} {u0 : Nat} {u3 : Nat} {u4 : Int32} {h : mv_H} {Q : mv_O → mv_H → Prop} (hG : mv_ok G) (hq : w_J0_init_db425_79 l G d u0 u3 u4 h Q) : mv_rq l G mJ0_init_db425 (d + 1) 79 [some (.ref u0), none, none, some (.ref u3), some (.int u4)] [] h Q := by
  unfold w_J0_init_db425_79 at hq
  refine q_aload_n dJ0_init_db425_79 rfl ?_
  refine q_iconst (v := 1) dJ0_init_db425_80 (by decide) ?_
  obtain ⟨fs81, h81, f81, b81, l81, e81, hq⟩ := vpu_e hq
  refine q_putF (k := 1) (T := TJ0) (C0 := RJ0) (N := 4) (ci := 0) (ty := .byte) tyJ0 tyJ0_ok nmJ0 dJ0_init_db425_81 fl_RJ0_15 rfl uin_RJ0 (by decide) rfl rfl rfl rfl (by decide +kernel) rfl rfl b81 f81 l81 ?_
  rw [← e81]
  show mv_rq l G mJ0_init_db425 (d + 1) 84 [some (.ref u0), none, none, some (.ref u3), some (.int u4)] [] h81 _
  refine q_aload_n dJ0_init_db425_84 rfl ?_
  refine q_aload_n dJ0_init_db425_85 rfl ?_
  refine q_iconst (v := 0) dJ0_init_db425_86 (by decide) ?_
  refine q_iload dJ0_init_db425_87 rfl ?_
  refine q_iconst (v := 1) dJ0_init_db425_89 (by decide) ?_
  refine q_ishl dJ0_init_db425_90 ?_
  refine q_cS (Y := mJ7_copyOfRange_39247) (As := [.ref u3, .int 0, .int (u4 <<< (1 &&& 31))]) (st := [.ref u0]) sc_J7_copyOfRange_39247 dJ0_init_db425_91 ml_RJ0_54 rfl (Nat.le_of_ble_eq_true rfl) rfl (Nat.le_of_ble_eq_true rfl) hq (fun v h1 hq1 => ?_) (fun E h1 hq1 => ?_)
  rotate_left
  ·
    rcases hq1 with hq1 | ⟨E1, e1, hq1⟩
    · obtain ⟨_, z, _⟩ := hq1; exact nomatch z
    · obtain rfl := Sum.inr.inj e1; exact q_xout (fun z hz => nomatch hz) hq1
  rcases hq1 with hq1 | ⟨E1, e1, hq1⟩
  rotate_left
  · exact nomatch e1
  obtain ⟨x91, hv, hq⟩ := hq1
  obtain rfl := Sum.inl.inj hv
  clear hv
  obtain ⟨h91, eh91⟩ : ∃ z, z = h1 := ⟨_, rfl⟩
  rw [← eh91] at hq ⊢
  clear eh91
  show mv_rq l G mJ0_init_db425 (d + 1) 94 [some (.ref u0), none, none, some (.ref u3), some (.int u4)] [.ref x91, .ref u0] h91 _
  obtain ⟨fs94, h94, f94, b94, l94, e94, hq⟩ := vpu_e hq
  refine q_putF (k := 0) (T := TJ0) (C0 := RJ0) (N := 4) (ci := 0) (ty := (.array .byte)) tyJ0 tyJ0_ok nmJ0 dJ0_init_db425_94 fl_RJ0_9 rfl uin_RJ0 (by decide) rfl rfl rfl rfl (by decide +kernel) rfl rfl b94 f94 l94 ?_
  rw [← e94]
  show mv_rq l G mJ0_init_db425 (d + 1) 97 [some (.ref u0), none, none, some (.ref u3), some (.int u4)] [] h94 _
  exact q_vret dJ0_init_db425_97 rfl hq
def w_J0_equals_9ea2d (l : Launch) (G : mv_G) (d : Nat) (u0 : Nat) (u1 : Nat) (h : mv_H) (Q : mv_O → mv_H → Prop) : Prop :=
  vif ((some u0) = (some u1)) (
    Q (.inl (some (.int 1))) h) (
    vob h u1 0 <|
    vob h u1 0 <|
    vgi h u0 0 1 fun x26 =>
    vgi h u1 0 1 fun x30 =>
    vif (x26 = x30) (
      mv_rq l G mJ0_equals_9ea2d (d + 1) 36 [some (.ref u0), none, some (.ref u1)] [] h Q) (
      Q (.inl (some (.int 0))) h))
theorem v_J0_equals_9ea2d {l : Launch} {G : mv_G} {d : Nat} {u0 : Nat} {u1 : Nat} {h : mv_H} {Q : mv_O → mv_H → Prop} (hG : mv_ok G) (hq : w_J0_equals_9ea2d l G d u0 u1 h Q) : mv_rq l G mJ0_equals_9ea2d (d + 1) 0 (mv_in [.ref u0, .ref u1] 3) [] h Q := by
  unfold w_J0_equals_9ea2d at hq
  show mv_rq l G mJ0_equals_9ea2d (d + 1) 0 [some (.ref u0), some (.ref u1), none] [] h _
  refine q_aload_n dJ0_equals_9ea2d_0 rfl ?_
  refine q_aload_n dJ0_equals_9ea2d_1 rfl ?_
  refine q_acmp_ne (rx := (some u0)) (ry := (some u1)) (tgt := 7) dJ0_equals_9ea2d_2 (by decide) (fun c2 => ?_) (fun c2 => ?_)
  ·
    have hq := vif_f hq c2
    refine q_aload_n dJ0_equals_9ea2d_7 rfl ?_
    obtain ⟨⟨fs8, f8⟩, hq⟩ := vob_e hq
    refine q_instS (ci := 0) dJ0_equals_9ea2d_8 cl_RJ0_10 f8 rfl ?_
    show mv_rq l G mJ0_equals_9ea2d (d + 1) 11 [some (.ref u0), some (.ref u1), none] [.int 1] h _
    refine q_if_eq (tgt := 54) dJ0_equals_9ea2d_11 (by decide) (fun z => absurd z (by decide)) (fun _ => ?_)
    refine q_aload_n dJ0_equals_9ea2d_14 rfl ?_
    obtain ⟨⟨fs15, f15⟩, hq⟩ := vob_e hq
    refine q_castS (ci := 0) dJ0_equals_9ea2d_15 cl_RJ0_10 f15 rfl ?_
    show mv_rq l G mJ0_equals_9ea2d (d + 1) 18 [some (.ref u0), some (.ref u1), none] [.ref u1] h _
    refine q_astore_n dJ0_equals_9ea2d_18 (Nat.le_of_ble_eq_true rfl) rfl ?_
    show mv_rq l G mJ0_equals_9ea2d (d + 1) 19 [some (.ref u0), some (.ref u1), some (.ref u1)] [] h _
    refine q_gets dJ0_equals_9ea2d_19 fl_RJ0_38 rfl hG.2.1 ?_
    refine q_if_eq (tgt := 36) dJ0_equals_9ea2d_22 (by decide) (fun z => absurd z (by decide)) (fun _ => ?_)
    refine q_aload_n dJ0_equals_9ea2d_25 rfl ?_
    obtain ⟨fs26, x26, f26, g26, hq⟩ := vgi_e hq
    refine q_getf (k := 1) (T := TJ0) (C0 := RJ0) (N := 4) (ci := 0) dJ0_equals_9ea2d_26 fl_RJ0_15 rfl uin_RJ0 (by decide) rfl f26 g26 ?_
    refine q_aload_n dJ0_equals_9ea2d_29 rfl ?_
    obtain ⟨fs30, x30, f30, g30, hq⟩ := vgi_e hq
    refine q_getf (k := 1) (T := TJ0) (C0 := RJ0) (N := 4) (ci := 0) dJ0_equals_9ea2d_30 fl_RJ0_15 rfl uin_RJ0 (by decide) rfl f30 g30 ?_
    refine q_icmp_ne (tgt := 54) dJ0_equals_9ea2d_33 (by decide) (fun c33 => ?_) (fun c33 => ?_)
    ·
      have hq := vif_f hq c33
      refine q_iconst (v := 0) dJ0_equals_9ea2d_54 (by decide) ?_
      exact q_iret (ty := .boolean) dJ0_equals_9ea2d_55 rfl rfl hq
    ·
      have hq := vif_t hq c33
      exact mv_weak (A := [some (.ref u0), none, some (.ref u1)]) (by repeat' constructor) hq
  ·
    have hq := vif_t hq c2
    refine q_iconst (v := 1) dJ0_equals_9ea2d_5 (by decide) ?_
    exact q_iret (ty := .boolean) dJ0_equals_9ea2d_6 rfl rfl hq
def w_J0_equals_9ea2d_36 (l : Launch) (G : mv_G) (d : Nat) (u0 : Nat) (u2 : Nat) (h : mv_H) (Q : mv_O → mv_H → Prop) : Prop :=
  vgb h u0 0 0 fun x37 =>
  vgb h u2 0 0 fun x41 =>
  mv_rq l G mJ1_equals_b5fdf d 0 (mv_in [.ref x37, .ref x41] 3) [] h (vI (fun E h1 => Q (.inr E) h1) (fun x44 h44 =>
  vif (x44 = 0) (
    Q (.inl (some (.int 0))) h44) (
    Q (.inl (some (.int 1))) h44)))
theorem v_J0_equals_9ea2d_36 {l : Launch} {G : mv_G} {d : Nat} {u0 : Nat} {u2 : Nat} {h : mv_H} {Q : mv_O → mv_H → Prop} (hG : mv_ok G) (hq : w_J0_equals_9ea2d_36 l G d u0 u2 h Q) : mv_rq l G mJ0_equals_9ea2d (d + 1) 36 [some (.ref u0), none, some (.ref u2)] [] h Q := by
  unfold w_J0_equals_9ea2d_36 at hq
  refine q_aload_n dJ0_equals_9ea2d_36 rfl ?_
  obtain ⟨fs37, x37, f37, g37, hq⟩ := vgb_e hq
  refine q_getf (k := 0) (T := TJ0) (C0 := RJ0) (N := 4) (ci := 0) dJ0_equals_9ea2d_37 fl_RJ0_9 rfl uin_RJ0 (by decide) rfl f37 g37 ?_
  refine q_aload_n dJ0_equals_9ea2d_40 rfl ?_
  obtain ⟨fs41, x41, f41, g41, hq⟩ := vgb_e hq
  refine q_getf (k := 0) (T := TJ0) (C0 := RJ0) (N := 4) (ci := 0) dJ0_equals_9ea2d_41 fl_RJ0_9 rfl uin_RJ0 (by decide) rfl f41 g41 ?_
  refine q_cS (Y := mJ1_equals_b5fdf) (As := [.ref x37, .ref x41]) (st := []) sc_J1_equals_b5fdf dJ0_equals_9ea2d_44 ml_RJ0_541 rfl (Nat.le_of_ble_eq_true rfl) rfl (Nat.le_of_ble_eq_true rfl) hq (fun v h1 hq1 => ?_) (fun E h1 hq1 => ?_)
  rotate_left
  ·
    rcases hq1 with hq1 | ⟨E1, e1, hq1⟩
    · obtain ⟨_, z, _⟩ := hq1; exact nomatch z
    · obtain rfl := Sum.inr.inj e1; exact q_xout (fun z hz => nomatch hz) hq1
  rcases hq1 with hq1 | ⟨E1, e1, hq1⟩
  rotate_left
  · exact nomatch e1
  obtain ⟨x44, hv, hq⟩ := hq1
  obtain rfl := Sum.inl.inj hv
  clear hv
  obtain ⟨h44, eh44⟩ : ∃ z, z = h1 := ⟨_, rfl⟩
  rw [← eh44] at hq ⊢
  clear eh44
  show mv_rq l G mJ0_equals_9ea2d (d + 1) 47 [some (.ref u0), none, some (.ref u2)] [.int x44] h44 _
  refine q_if_eq (tgt := 54) dJ0_equals_9ea2d_47 (by decide) (fun c47 => ?_) (fun c47 => ?_)
  ·
    have hq := vif_t hq c47
    refine q_iconst (v := 0) dJ0_equals_9ea2d_54 (by decide) ?_
    exact q_iret (ty := .boolean) dJ0_equals_9ea2d_55 rfl rfl hq
  ·
    have hq := vif_f hq c47
    refine q_iconst (v := 1) dJ0_equals_9ea2d_50 (by decide) ?_
    refine q_goto (tgt := 55) dJ0_equals_9ea2d_51 (by decide) ?_
    exact q_iret (ty := .boolean) dJ0_equals_9ea2d_55 rfl rfl hq
def w_J0_getBytes_840e7 (l : Launch) (G : mv_G) (d : Nat) (u0 : Nat) (u1 : Nat) (u2 : Int32) (u3 : Int32) (h : mv_H) (Q : mv_O → mv_H → Prop) : Prop :=
  vob h u0 0 (
  mv_rq l G mJ0_coder_7d493 d 0 (mv_in [.ref u0] 1) [] h (vI (fun E h1 => Q (.inr E) h1) (fun x1 h1 =>
  vif (x1 = u3) (
    vgb h1 u0 0 0 fun x9 =>
    vgb h1 u0 0 0 fun x18 =>
    vln G h1 x18 0 fun x21 =>
    vcp G h1 x9 0 u1 (u2 <<< (u3 &&& 31)) x21 fun h22 =>
    Q (.inl none) h22) (
    vgb h1 u0 0 0 fun x29 =>
    vgb h1 u0 0 0 fun x36 =>
    vln G h1 x36 0 fun x39 =>
    False))))
theorem v_J0_getBytes_840e7 {l : Launch} {G : mv_G} {d : Nat} {u0 : Nat} {u1 : Nat} {u2 : Int32} {u3 : Int32} {h : mv_H} {Q : mv_O → mv_H → Prop} (hG : mv_ok G) (hq : w_J0_getBytes_840e7 l G d u0 u1 u2 u3 h Q) : mv_rq l G mJ0_getBytes_840e7 (d + 1) 0 (mv_in [.ref u0, .ref u1, .int u2, .int u3] 4) [] h Q := by
  unfold w_J0_getBytes_840e7 at hq
  show mv_rq l G mJ0_getBytes_840e7 (d + 1) 0 [some (.ref u0), some (.ref u1), some (.int u2), some (.int u3)] [] h _
  refine q_aload_n dJ0_getBytes_840e7_0 rfl ?_
  obtain ⟨⟨fs1, f1⟩, hq⟩ := vob_e hq
  refine q_cV (Y := mJ0_coder_7d493) (As := []) (st := []) (b := u0) (ci := 0) vc_J0_coder_7d493 dJ0_getBytes_840e7_1 ml_RJ0_335 rfl f1 rfl (Nat.le_of_ble_eq_true rfl) rfl (Nat.le_of_ble_eq_true rfl) hq (fun v h1 hq1 => ?_) (fun E h1 hq1 => ?_)
  rotate_left
  ·
    rcases hq1 with hq1 | ⟨E1, e1, hq1⟩
    · obtain ⟨_, z, _⟩ := hq1; exact nomatch z
    · obtain rfl := Sum.inr.inj e1; exact q_xout (fun z hz => nomatch hz) hq1
  rcases hq1 with hq1 | ⟨E1, e1, hq1⟩
  rotate_left
  · exact nomatch e1
  obtain ⟨x1, hv, hq⟩ := hq1
  obtain rfl := Sum.inl.inj hv
  clear hv
  obtain ⟨h1, eh1⟩ : ∃ z, z = h1 := ⟨_, rfl⟩
  rw [← eh1] at hq ⊢
  clear eh1
  show mv_rq l G mJ0_getBytes_840e7 (d + 1) 4 [some (.ref u0), some (.ref u1), some (.int u2), some (.int u3)] [.int x1] h1 _
  refine q_iload_n dJ0_getBytes_840e7_4 rfl ?_
  refine q_icmp_ne (tgt := 28) dJ0_getBytes_840e7_5 (by decide) (fun c5 => ?_) (fun c5 => ?_)
  ·
    have hq := vif_f hq c5
    refine q_aload_n dJ0_getBytes_840e7_28 rfl ?_
    obtain ⟨fs29, x29, f29, g29, hq⟩ := vgb_e hq
    refine q_getf (k := 0) (T := TJ0) (C0 := RJ0) (N := 4) (ci := 0) dJ0_getBytes_840e7_29 fl_RJ0_9 rfl uin_RJ0 (by decide) rfl f29 g29 ?_
    refine q_iconst (v := 0) dJ0_getBytes_840e7_32 (by decide) ?_
    refine q_aload_n dJ0_getBytes_840e7_33 rfl ?_
    refine q_iload_n dJ0_getBytes_840e7_34 rfl ?_
    refine q_aload_n dJ0_getBytes_840e7_35 rfl ?_
    obtain ⟨fs36, x36, f36, g36, hq⟩ := vgb_e hq
    refine q_getf (k := 0) (T := TJ0) (C0 := RJ0) (N := 4) (ci := 0) dJ0_getBytes_840e7_36 fl_RJ0_9 rfl uin_RJ0 (by decide) rfl f36 g36 ?_
    obtain ⟨y39, x39, g39, e39, hq⟩ := vln_e hq
    refine q_alen (t0 := 0) dJ0_getBytes_840e7_39 (mv_tB hG) g39 ?_
    rw [← e39]
    show mv_rq l G mJ0_getBytes_840e7 (d + 1) 40 [some (.ref u0), some (.ref u1), some (.int u2), some (.int u3)] [.int x39, .int u2, .ref u1, .int 0, .ref x29] h1 _
    exact False.elim hq
  ·
    have hq := vif_t hq c5
    refine q_aload_n dJ0_getBytes_840e7_8 rfl ?_
    obtain ⟨fs9, x9, f9, g9, hq⟩ := vgb_e hq
    refine q_getf (k := 0) (T := TJ0) (C0 := RJ0) (N := 4) (ci := 0) dJ0_getBytes_840e7_9 fl_RJ0_9 rfl uin_RJ0 (by decide) rfl f9 g9 ?_
    refine q_iconst (v := 0) dJ0_getBytes_840e7_12 (by decide) ?_
    refine q_aload_n dJ0_getBytes_840e7_13 rfl ?_
    refine q_iload_n dJ0_getBytes_840e7_14 rfl ?_
    refine q_iload_n dJ0_getBytes_840e7_15 rfl ?_
    refine q_ishl dJ0_getBytes_840e7_16 ?_
    refine q_aload_n dJ0_getBytes_840e7_17 rfl ?_
    obtain ⟨fs18, x18, f18, g18, hq⟩ := vgb_e hq
    refine q_getf (k := 0) (T := TJ0) (C0 := RJ0) (N := 4) (ci := 0) dJ0_getBytes_840e7_18 fl_RJ0_9 rfl uin_RJ0 (by decide) rfl f18 g18 ?_
    obtain ⟨y21, x21, g21, e21, hq⟩ := vln_e hq
    refine q_alen (t0 := 0) dJ0_getBytes_840e7_21 (mv_tB hG) g21 ?_
    rw [← e21]
    show mv_rq l G mJ0_getBytes_840e7 (d + 1) 22 [some (.ref u0), some (.ref u1), some (.int u2), some (.int u3)] [.int x21, .int (u2 <<< (u3 &&& 31)), .ref u1, .int 0, .ref x9] h1 _
    obtain ⟨s'22, d'22, n'22, n022, n122, f22, g22, h22, k1, k2, k3, k4, k5, k6, k7, k8, k9, k10, k11, k12, e22, hq⟩ := vcp_e hq
    refine r_copyb k1 k2 k3 hG dJ0_getBytes_840e7_22 mac_RJ0_212 k4 k5 k6 k7 k8 k9 k10 k11 k12 rfl (Nat.le_of_ble_eq_true rfl) ?_
    rw [← e22]
    clear k1 k2 k3 k4 k5 k6 k7 k8 k9 k10 k11 k12
    show mv_rq l G mJ0_getBytes_840e7 (d + 1) 25 [some (.ref u0), some (.ref u1), some (.int u2), some (.int u3)] [] h22 _
    refine q_goto (tgt := 43) dJ0_getBytes_840e7_25 (by decide) ?_
    exact q_vret dJ0_getBytes_840e7_43 rfl hq
def w_J1_canEncode_fc78d (l : Launch) (G : mv_G) (d : Nat) (u0 : Int32) (h : mv_H) (Q : mv_O → mv_H → Prop) : Prop :=
  vif (255 < u0) (
    Q (.inl (some (.int 0))) h) (
    Q (.inl (some (.int 1))) h)
theorem v_J1_canEncode_fc78d {l : Launch} {G : mv_G} {d : Nat} {u0 : Int32} {h : mv_H} {Q : mv_O → mv_H → Prop} (hG : mv_ok G) (hq : w_J1_canEncode_fc78d l G d u0 h Q) : mv_rq l G mJ1_canEncode_fc78d d 0 (mv_in [.int u0] 1) [] h Q := by
  unfold w_J1_canEncode_fc78d at hq
  show mv_rq l G mJ1_canEncode_fc78d d 0 [some (.int u0)] [] h _
  refine q_iload_n dJ1_canEncode_fc78d_0 rfl ?_
  refine q_sipush (v := 255) dJ1_canEncode_fc78d_1 (by decide) ?_
  refine q_icmp_gt (tgt := 11) dJ1_canEncode_fc78d_4 (by decide) (fun c4 => ?_) (fun c4 => ?_)
  ·
    have hq := vif_t hq c4
    refine q_iconst (v := 0) dJ1_canEncode_fc78d_11 (by decide) ?_
    exact q_iret (ty := .boolean) dJ1_canEncode_fc78d_12 rfl rfl hq
  ·
    have hq := vif_f hq c4
    refine q_iconst (v := 1) dJ1_canEncode_fc78d_7 (by decide) ?_
    refine q_goto (tgt := 12) dJ1_canEncode_fc78d_8 (by decide) ?_
    exact q_iret (ty := .boolean) dJ1_canEncode_fc78d_12 rfl rfl hq
def w_J1_equals_b5fdf (l : Launch) (G : mv_G) (d : Nat) (u0 : Nat) (u1 : Nat) (h : mv_H) (Q : mv_O → mv_H → Prop) : Prop :=
  vln G h u0 0 fun x1 =>
  vln G h u1 0 fun x3 =>
  vif (x1 = x3) (
    mv_rq l G mJ1_equals_b5fdf d 9 [some (.ref u0), some (.ref u1), some (.int 0)] [] h Q) (
    Q (.inl (some (.int 0))) h)
theorem v_J1_equals_b5fdf {l : Launch} {G : mv_G} {d : Nat} {u0 : Nat} {u1 : Nat} {h : mv_H} {Q : mv_O → mv_H → Prop} (hG : mv_ok G) (hq : w_J1_equals_b5fdf l G d u0 u1 h Q) : mv_rq l G mJ1_equals_b5fdf d 0 (mv_in [.ref u0, .ref u1] 3) [] h Q := by
  unfold w_J1_equals_b5fdf at hq
  show mv_rq l G mJ1_equals_b5fdf d 0 [some (.ref u0), some (.ref u1), none] [] h _
  refine q_aload_n dJ1_equals_b5fdf_0 rfl ?_
  obtain ⟨y1, x1, g1, e1, hq⟩ := vln_e hq
  refine q_alen (t0 := 0) dJ1_equals_b5fdf_1 (mv_tB hG) g1 ?_
  rw [← e1]
  show mv_rq l G mJ1_equals_b5fdf d 2 [some (.ref u0), some (.ref u1), none] [.int x1] h _
  refine q_aload_n dJ1_equals_b5fdf_2 rfl ?_
  obtain ⟨y3, x3, g3, e3, hq⟩ := vln_e hq
  refine q_alen (t0 := 0) dJ1_equals_b5fdf_3 (mv_tB hG) g3 ?_
  rw [← e3]
  show mv_rq l G mJ1_equals_b5fdf d 4 [some (.ref u0), some (.ref u1), none] [.int x3, .int x1] h _
  refine q_icmp_ne (tgt := 34) dJ1_equals_b5fdf_4 (by decide) (fun c4 => ?_) (fun c4 => ?_)
  ·
    have hq := vif_f hq c4
    refine q_iconst (v := 0) dJ1_equals_b5fdf_34 (by decide) ?_
    exact q_iret (ty := .boolean) dJ1_equals_b5fdf_35 rfl rfl hq
  ·
    have hq := vif_t hq c4
    refine q_iconst (v := 0) dJ1_equals_b5fdf_7 (by decide) ?_
    refine q_istore_n dJ1_equals_b5fdf_8 (Nat.le_of_ble_eq_true rfl) rfl ?_
    show mv_rq l G mJ1_equals_b5fdf d 9 [some (.ref u0), some (.ref u1), some (.int 0)] [] h _
    exact mv_weak (A := [some (.ref u0), some (.ref u1), some (.int 0)]) (by repeat' constructor) hq
def w_J1_equals_b5fdf_9 (l : Launch) (G : mv_G) (d : Nat) (u0 : Nat) (u1 : Nat) (u2 : Int32) (h : mv_H) (Q : mv_O → mv_H → Prop) : Prop :=
  vln G h u0 0 fun x11 =>
  vif (x11 ≤ u2) (
    Q (.inl (some (.int 1))) h) (
    vai G h u0 0 u2 fun x17 =>
    vai G h u1 0 u2 fun x20 =>
    vif (x17 = x20) (
      mv_rq l G mJ1_equals_b5fdf d 9 [some (.ref u0), some (.ref u1), some (.int (u2 + 1))] [] h Q) (
      Q (.inl (some (.int 0))) h))
theorem v_J1_equals_b5fdf_9 {l : Launch} {G : mv_G} {d : Nat} {u0 : Nat} {u1 : Nat} {u2 : Int32} {h : mv_H} {Q : mv_O → mv_H → Prop} (hG : mv_ok G) (hq : w_J1_equals_b5fdf_9 l G d u0 u1 u2 h Q) : mv_rq l G mJ1_equals_b5fdf d 9 [some (.ref u0), some (.ref u1), some (.int u2)] [] h Q := by
  unfold w_J1_equals_b5fdf_9 at hq
  refine q_iload_n dJ1_equals_b5fdf_9 rfl ?_
  refine q_aload_n dJ1_equals_b5fdf_10 rfl ?_
  obtain ⟨y11, x11, g11, e11, hq⟩ := vln_e hq
  refine q_alen (t0 := 0) dJ1_equals_b5fdf_11 (mv_tB hG) g11 ?_
  rw [← e11]
  show mv_rq l G mJ1_equals_b5fdf d 12 [some (.ref u0), some (.ref u1), some (.int u2)] [.int x11, .int u2] h _
  refine q_icmp_ge (tgt := 32) dJ1_equals_b5fdf_12 (by decide) (fun c12 => ?_) (fun c12 => ?_)
  ·
    have hq := vif_t hq c12
    refine q_iconst (v := 1) dJ1_equals_b5fdf_32 (by decide) ?_
    exact q_iret (ty := .boolean) dJ1_equals_b5fdf_33 rfl rfl hq
  ·
    have hq := vif_f hq c12
    refine q_aload_n dJ1_equals_b5fdf_15 rfl ?_
    refine q_iload_n dJ1_equals_b5fdf_16 rfl ?_
    obtain ⟨n17, f17, x17, g17, i17, e17, hq⟩ := vai_e hq
    refine q_bald (t0 := 0) dJ1_equals_b5fdf_17 (mv_tB hG) g17 i17 ?_
    rw [← e17]
    show mv_rq l G mJ1_equals_b5fdf d 18 [some (.ref u0), some (.ref u1), some (.int u2)] [.int x17] h _
    refine q_aload_n dJ1_equals_b5fdf_18 rfl ?_
    refine q_iload_n dJ1_equals_b5fdf_19 rfl ?_
    obtain ⟨n20, f20, x20, g20, i20, e20, hq⟩ := vai_e hq
    refine q_bald (t0 := 0) dJ1_equals_b5fdf_20 (mv_tB hG) g20 i20 ?_
    rw [← e20]
    show mv_rq l G mJ1_equals_b5fdf d 21 [some (.ref u0), some (.ref u1), some (.int u2)] [.int x20, .int x17] h _
    refine q_icmp_eq (tgt := 26) dJ1_equals_b5fdf_21 (by decide) (fun c21 => ?_) (fun c21 => ?_)
    ·
      have hq := vif_t hq c21
      refine q_iinc dJ1_equals_b5fdf_26 rfl rfl ?_
      show mv_rq l G mJ1_equals_b5fdf d 29 [some (.ref u0), some (.ref u1), some (.int (u2 + 1))] [] h _
      refine q_goto (tgt := 9) dJ1_equals_b5fdf_29 (by decide) ?_
      exact mv_weak (A := [some (.ref u0), some (.ref u1), some (.int (u2 + 1))]) (by repeat' constructor) hq
    ·
      have hq := vif_f hq c21
      refine q_iconst (v := 0) dJ1_equals_b5fdf_24 (by decide) ?_
      exact q_iret (ty := .boolean) dJ1_equals_b5fdf_25 rfl rfl hq
def w_J7_copyOf_9075b (l : Launch) (G : mv_G) (d : Nat) (u0 : Nat) (u1 : Int32) (h : mv_H) (Q : mv_O → mv_H → Prop) : Prop :=
  vln G h u0 0 fun x2 =>
  vif (u1 = x2) (
    vcl G h u0 fun a7 h7 =>
    vcb G h7 a7 <|
    Q (.inl (some (.ref a7))) h7) (
    ¬ u1 < 0 ∧ u1.toNatClampNeg * 1 ≤ 536870912 ∧
    vnw h u1.toNatClampNeg (.inl (mv_t G 0, u1.toNatClampNeg, .inl (fun _ => 0))) fun a15 h15 =>
    vln G h15 u0 0 fun x23 =>
    vcp G h15 u0 0 a15 0 (if u1 < x23 then u1 else x23) fun h28 =>
    Q (.inl (some (.ref a15))) h28)
theorem v_J7_copyOf_9075b {l : Launch} {G : mv_G} {d : Nat} {u0 : Nat} {u1 : Int32} {h : mv_H} {Q : mv_O → mv_H → Prop} (hG : mv_ok G) (hq : w_J7_copyOf_9075b l G d u0 u1 h Q) : mv_rq l G mJ7_copyOf_9075b (d + 1) 0 (mv_in [.ref u0, .int u1] 3) [] h Q := by
  unfold w_J7_copyOf_9075b at hq
  show mv_rq l G mJ7_copyOf_9075b (d + 1) 0 [some (.ref u0), some (.int u1), none] [] h _
  refine q_iload_n dJ7_copyOf_9075b_0 rfl ?_
  refine q_aload_n dJ7_copyOf_9075b_1 rfl ?_
  obtain ⟨y2, x2, g2, e2, hq⟩ := vln_e hq
  refine q_alen (t0 := 0) dJ7_copyOf_9075b_2 (mv_tB hG) g2 ?_
  rw [← e2]
  show mv_rq l G mJ7_copyOf_9075b (d + 1) 3 [some (.ref u0), some (.int u1), none] [.int x2, .int u1] h _
  refine q_icmp_ne (tgt := 14) dJ7_copyOf_9075b_3 (by decide) (fun c3 => ?_) (fun c3 => ?_)
  ·
    have hq := vif_f hq c3
    refine q_iload_n dJ7_copyOf_9075b_14 rfl ?_
    obtain ⟨z15, y15, hq⟩ := hq
    obtain ⟨a15, h15, ea15, eh15, hq⟩ := vnw_e hq
    refine q_newa (t0 := 0) (N := u1.toNatClampNeg) (a0 := (u1.toNatClampNeg, .inl (fun _ => 0))) dJ7_copyOf_9075b_15 rfl (fun _ z => nomatch z) arr_byte (mv_tB hG) rfl z15 rfl y15 ?_
    rw [← eh15, ← ea15]
    show mv_rq l G mJ7_copyOf_9075b (d + 1) 17 [some (.ref u0), some (.int u1), none] [.ref a15] h15 _
    refine q_astore_n dJ7_copyOf_9075b_17 (Nat.le_of_ble_eq_true rfl) rfl ?_
    show mv_rq l G mJ7_copyOf_9075b (d + 1) 18 [some (.ref u0), some (.int u1), some (.ref a15)] [] h15 _
    refine q_aload_n dJ7_copyOf_9075b_18 rfl ?_
    refine q_iconst (v := 0) dJ7_copyOf_9075b_19 (by decide) ?_
    refine q_aload_n dJ7_copyOf_9075b_20 rfl ?_
    refine q_iconst (v := 0) dJ7_copyOf_9075b_21 (by decide) ?_
    refine q_aload_n dJ7_copyOf_9075b_22 rfl ?_
    obtain ⟨y23, x23, g23, e23, hq⟩ := vln_e hq
    refine q_alen (t0 := 0) dJ7_copyOf_9075b_23 (mv_tB hG) g23 ?_
    rw [← e23]
    show mv_rq l G mJ7_copyOf_9075b (d + 1) 24 [some (.ref u0), some (.int u1), some (.ref a15)] [.int x23, .int 0, .ref a15, .int 0, .ref u0] h15 _
    refine q_iload_n dJ7_copyOf_9075b_24 rfl ?_
    refine q_mmin dJ7_copyOf_9075b_25 ml_RJ7_304 mth_min_s mth_i mth_min_c rfl (Nat.le_of_ble_eq_true rfl) ?_
    obtain ⟨s'28, d'28, n'28, n028, n128, f28, g28, h28, k1, k2, k3, k4, k5, k6, k7, k8, k9, k10, k11, k12, e28, hq⟩ := vcp_e hq
    refine r_copyb k1 k2 k3 hG dJ7_copyOf_9075b_28 mac_RJ7_150 k4 k5 k6 k7 k8 k9 k10 k11 k12 rfl (Nat.le_of_ble_eq_true rfl) ?_
    rw [← e28]
    clear k1 k2 k3 k4 k5 k6 k7 k8 k9 k10 k11 k12
    show mv_rq l G mJ7_copyOf_9075b (d + 1) 31 [some (.ref u0), some (.int u1), some (.ref a15)] [] h28 _
    refine q_aload_n dJ7_copyOf_9075b_31 rfl ?_
    exact q_aret (rt := (.array .byte)) dJ7_copyOf_9075b_32 rfl (Or.inr ⟨_, rfl⟩) (Or.inr ⟨_, rfl⟩) hq
  ·
    have hq := vif_t hq c3
    refine q_aload_n dJ7_copyOf_9075b_6 rfl ?_
    obtain ⟨n7, f7, a7, h7, b7, g7, i7, ea7, eh7, hq⟩ := vcl_e hq
    refine q_clone (t0 := 0) dJ7_copyOf_9075b_7 ml_RJ7_310 cb_1 cb_2 cb_3 cb_4 cb_5 (mv_tB hG) b7 g7 i7 rfl (Nat.le_of_ble_eq_true rfl) ?_
    rw [← eh7, ← ea7]
    show mv_rq l G mJ7_copyOf_9075b (d + 1) 10 [some (.ref u0), some (.int u1), none] [.ref a7] h7 _
    obtain ⟨b10, ⟨y10, f10⟩, hq⟩ := vcb_e hq
    refine q_castB (t0 := 0) dJ7_copyOf_9075b_10 cl_RJ7_311 (mv_tB hG) b10 f10 ?_
    show mv_rq l G mJ7_copyOf_9075b (d + 1) 13 [some (.ref u0), some (.int u1), none] [.ref a7] h7 _
    exact q_aret (rt := (.array .byte)) dJ7_copyOf_9075b_13 rfl (Or.inr ⟨_, rfl⟩) (Or.inr ⟨_, rfl⟩) hq
def w_J7_copyOfRange_39247 (l : Launch) (G : mv_G) (d : Nat) (u0 : Nat) (u1 : Int32) (u2 : Int32) (h : mv_H) (Q : mv_O → mv_H → Prop) : Prop :=
  vif (u1 = 0) (
    vln G h u0 0 fun x6 =>
    vif (u2 = x6) (
      vcl G h u0 fun a18 h18 =>
      vcb G h18 a18 <|
      Q (.inl (some (.ref a18))) h18) (
      mv_rq l G mJ7_copyOfRange_39247 (d + 1) 10 [some (.ref u0), some (.int u1), some (.int u2)] [] h Q)) (
    mv_rq l G mJ7_copyOfRange_39247 (d + 1) 10 [some (.ref u0), some (.int u1), some (.int u2)] [] h Q)
theorem v_J7_copyOfRange_39247 {l : Launch} {G : mv_G} {d : Nat} {u0 : Nat} {u1 : Int32} {u2 : Int32} {h : mv_H} {Q : mv_O → mv_H → Prop} (hG : mv_ok G) (hq : w_J7_copyOfRange_39247 l G d u0 u1 u2 h Q) : mv_rq l G mJ7_copyOfRange_39247 (d + 1) 0 (mv_in [.ref u0, .int u1, .int u2] 3) [] h Q := by
  unfold w_J7_copyOfRange_39247 at hq
  show mv_rq l G mJ7_copyOfRange_39247 (d + 1) 0 [some (.ref u0), some (.int u1), some (.int u2)] [] h _
  refine q_iload_n dJ7_copyOfRange_39247_0 rfl ?_
  refine q_if_ne (tgt := 10) dJ7_copyOfRange_39247_1 (by decide) (fun c1 => ?_) (fun c1 => ?_)
  ·
    have hq := vif_f hq c1
    exact mv_weak (A := [some (.ref u0), some (.int u1), some (.int u2)]) (by repeat' constructor) hq
  ·
    have hq := vif_t hq c1
    refine q_iload_n dJ7_copyOfRange_39247_4 rfl ?_
    refine q_aload_n dJ7_copyOfRange_39247_5 rfl ?_
    obtain ⟨y6, x6, g6, e6, hq⟩ := vln_e hq
    refine q_alen (t0 := 0) dJ7_copyOfRange_39247_6 (mv_tB hG) g6 ?_
    rw [← e6]
    show mv_rq l G mJ7_copyOfRange_39247 (d + 1) 7 [some (.ref u0), some (.int u1), some (.int u2)] [.int x6, .int u2] h _
    refine q_icmp_eq (tgt := 17) dJ7_copyOfRange_39247_7 (by decide) (fun c7 => ?_) (fun c7 => ?_)
    ·
      have hq := vif_t hq c7
      refine q_aload_n dJ7_copyOfRange_39247_17 rfl ?_
      obtain ⟨n18, f18, a18, h18, b18, g18, i18, ea18, eh18, hq⟩ := vcl_e hq
      refine q_clone (t0 := 0) dJ7_copyOfRange_39247_18 ml_RJ7_310 cb_1 cb_2 cb_3 cb_4 cb_5 (mv_tB hG) b18 g18 i18 rfl (Nat.le_of_ble_eq_true rfl) ?_
      rw [← eh18, ← ea18]
      show mv_rq l G mJ7_copyOfRange_39247 (d + 1) 21 [some (.ref u0), some (.int u1), some (.int u2)] [.ref a18] h18 _
      obtain ⟨b21, ⟨y21, f21⟩, hq⟩ := vcb_e hq
      refine q_castB (t0 := 0) dJ7_copyOfRange_39247_21 cl_RJ7_311 (mv_tB hG) b21 f21 ?_
      show mv_rq l G mJ7_copyOfRange_39247 (d + 1) 24 [some (.ref u0), some (.int u1), some (.int u2)] [.ref a18] h18 _
      exact q_aret (rt := (.array .byte)) dJ7_copyOfRange_39247_24 rfl (Or.inr ⟨_, rfl⟩) (Or.inr ⟨_, rfl⟩) hq
    ·
      have hq := vif_f hq c7
      exact mv_weak (A := [some (.ref u0), some (.int u1), some (.int u2)]) (by repeat' constructor) hq
def w_J7_copyOfRange_39247_10 (l : Launch) (G : mv_G) (d : Nat) (u0 : Nat) (u1 : Int32) (u2 : Int32) (h : mv_H) (Q : mv_O → mv_H → Prop) : Prop :=
  mv_rq l G mJ7_copyOfRangeByte_39247 d 0 (mv_in [.ref u0, .int u1, .int u2] 5) [] h (vB (fun E h1 => Q (.inr E) h1) (fun x13 h13 =>
  Q (.inl (some (.ref x13))) h13))
theorem v_J7_copyOfRange_39247_10 {l : Launch} {G : mv_G} {d : Nat} {u0 : Nat} {u1 : Int32} {u2 : Int32} {h : mv_H} {Q : mv_O → mv_H → Prop} (hG : mv_ok G) (hq : w_J7_copyOfRange_39247_10 l G d u0 u1 u2 h Q) : mv_rq l G mJ7_copyOfRange_39247 (d + 1) 10 [some (.ref u0), some (.int u1), some (.int u2)] [] h Q := by
  unfold w_J7_copyOfRange_39247_10 at hq
  refine q_aload_n dJ7_copyOfRange_39247_10 rfl ?_
  refine q_iload_n dJ7_copyOfRange_39247_11 rfl ?_
  refine q_iload_n dJ7_copyOfRange_39247_12 rfl ?_
  refine q_cS (Y := mJ7_copyOfRangeByte_39247) (As := [.ref u0, .int u1, .int u2]) (st := []) sc_J7_copyOfRangeByte_39247 dJ7_copyOfRange_39247_13 ml_RJ7_339 rfl (Nat.le_of_ble_eq_true rfl) rfl (Nat.le_of_ble_eq_true rfl) hq (fun v h1 hq1 => ?_) (fun E h1 hq1 => ?_)
  rotate_left
  ·
    rcases hq1 with hq1 | ⟨E1, e1, hq1⟩
    · obtain ⟨_, z, _⟩ := hq1; exact nomatch z
    · obtain rfl := Sum.inr.inj e1; exact q_xout (fun z hz => nomatch hz) hq1
  rcases hq1 with hq1 | ⟨E1, e1, hq1⟩
  rotate_left
  · exact nomatch e1
  obtain ⟨x13, hv, hq⟩ := hq1
  obtain rfl := Sum.inl.inj hv
  clear hv
  obtain ⟨h13, eh13⟩ : ∃ z, z = h1 := ⟨_, rfl⟩
  rw [← eh13] at hq ⊢
  clear eh13
  show mv_rq l G mJ7_copyOfRange_39247 (d + 1) 16 [some (.ref u0), some (.int u1), some (.int u2)] [.ref x13] h13 _
  exact q_aret (rt := (.array .byte)) dJ7_copyOfRange_39247_16 rfl (Or.inr ⟨_, rfl⟩) (Or.inr ⟨_, rfl⟩) hq
def w_J8_newLength_cabcc (l : Launch) (G : mv_G) (d : Nat) (u0 : Int32) (u1 : Int32) (u2 : Int32) (h : mv_H) (Q : mv_O → mv_H → Prop) : Prop :=
  vif ((u0 + (if u1 < u2 then u2 else u1)) ≤ 0) (
    mv_rq l G mJ8_newLength_cabcc (d + 1) 21 [some (.int u0), some (.int u1), none, none] [] h Q) (
    vif (2147483639 < (u0 + (if u1 < u2 then u2 else u1))) (
      mv_rq l G mJ8_newLength_cabcc (d + 1) 21 [some (.int u0), some (.int u1), none, none] [] h Q) (
      Q (.inl (some (.int (u0 + (if u1 < u2 then u2 else u1))))) h))
theorem v_J8_newLength_cabcc {l : Launch} {G : mv_G} {d : Nat} {u0 : Int32} {u1 : Int32} {u2 : Int32} {h : mv_H} {Q : mv_O → mv_H → Prop} (hG : mv_ok G) (hq : w_J8_newLength_cabcc l G d u0 u1 u2 h Q) : mv_rq l G mJ8_newLength_cabcc (d + 1) 0 (mv_in [.int u0, .int u1, .int u2] 4) [] h Q := by
  unfold w_J8_newLength_cabcc at hq
  show mv_rq l G mJ8_newLength_cabcc (d + 1) 0 [some (.int u0), some (.int u1), some (.int u2), none] [] h _
  refine q_iload_n dJ8_newLength_cabcc_0 rfl ?_
  refine q_iload_n dJ8_newLength_cabcc_1 rfl ?_
  refine q_iload_n dJ8_newLength_cabcc_2 rfl ?_
  refine q_mmax dJ8_newLength_cabcc_3 ml_RJ8_194 mth_max_s mth_i mth_max_c rfl (Nat.le_of_ble_eq_true rfl) ?_
  refine q_iadd dJ8_newLength_cabcc_6 ?_
  refine q_istore_n dJ8_newLength_cabcc_7 (Nat.le_of_ble_eq_true rfl) rfl ?_
  show mv_rq l G mJ8_newLength_cabcc (d + 1) 8 [some (.int u0), some (.int u1), some (.int u2), some (.int (u0 + (if u1 < u2 then u2 else u1)))] [] h _
  refine q_iconst (v := 0) dJ8_newLength_cabcc_8 (by decide) ?_
  refine q_iload_n dJ8_newLength_cabcc_9 rfl ?_
  refine q_icmp_ge (tgt := 21) dJ8_newLength_cabcc_10 (by decide) (fun c10 => ?_) (fun c10 => ?_)
  ·
    have hq := vif_t hq c10
    exact mv_weak (A := [some (.int u0), some (.int u1), none, none]) (by repeat' constructor) hq
  ·
    have hq := vif_f hq c10
    refine q_iload_n dJ8_newLength_cabcc_13 rfl ?_
    refine q_ldc dJ8_newLength_cabcc_14 ct_RJ8_200 ?_
    refine q_icmp_gt (tgt := 21) dJ8_newLength_cabcc_16 (by decide) (fun c16 => ?_) (fun c16 => ?_)
    ·
      have hq := vif_t hq c16
      exact mv_weak (A := [some (.int u0), some (.int u1), none, none]) (by repeat' constructor) hq
    ·
      have hq := vif_f hq c16
      refine q_iload_n dJ8_newLength_cabcc_19 rfl ?_
      exact q_iret (ty := .int) dJ8_newLength_cabcc_20 rfl rfl hq
def w_J8_newLength_cabcc_21 (l : Launch) (G : mv_G) (d : Nat) (u0 : Int32) (u1 : Int32) (h : mv_H) (Q : mv_O → mv_H → Prop) : Prop :=
  False
theorem v_J8_newLength_cabcc_21 {l : Launch} {G : mv_G} {d : Nat} {u0 : Int32} {u1 : Int32} {h : mv_H} {Q : mv_O → mv_H → Prop} (hG : mv_ok G) (hq : w_J8_newLength_cabcc_21 l G d u0 u1 h Q) : mv_rq l G mJ8_newLength_cabcc (d + 1) 21 [some (.int u0), some (.int u1), none, none] [] h Q := by
  unfold w_J8_newLength_cabcc_21 at hq
  refine q_iload_n dJ8_newLength_cabcc_21 rfl ?_
  refine q_iload_n dJ8_newLength_cabcc_22 rfl ?_
  exact False.elim hq
