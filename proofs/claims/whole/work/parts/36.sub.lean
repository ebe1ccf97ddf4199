theorem dJ0_init_031fb_0 : decode cJ0_init_031fb 0 = .ok (.aload_n 0, 1) := by decide +kernel
theorem dJ0_init_031fb_1 : decode cJ0_init_031fb 1 = .ok (.invokespecial 1, 3) := by decide +kernel
theorem dJ0_init_031fb_4 : decode cJ0_init_031fb 4 = .ok (.aload_n 0, 1) := by decide +kernel
theorem dJ0_init_031fb_5 : decode cJ0_init_031fb 5 = .ok (.aload_n 1, 1) := by decide +kernel
theorem dJ0_init_031fb_6 : decode cJ0_init_031fb 6 = .ok (.putfield 9, 3) := by decide +kernel
theorem dJ0_init_031fb_9 : decode cJ0_init_031fb 9 = .ok (.aload_n 0, 1) := by decide +kernel
theorem dJ0_init_031fb_10 : decode cJ0_init_031fb 10 = .ok (.iload_n 2, 1) := by decide +kernel
theorem dJ0_init_031fb_11 : decode cJ0_init_031fb 11 = .ok (.putfield 15, 3) := by decide +kernel
theorem dJ0_init_031fb_14 : decode cJ0_init_031fb 14 = .ok (.return_, 1) := by decide +kernel
theorem dJ7_copyOfRangeByte_39247_0 : decode cJ7_copyOfRangeByte_39247 0 = .ok (.iload_n 1, 1) := by decide +kernel
theorem dJ7_copyOfRangeByte_39247_1 : decode cJ7_copyOfRangeByte_39247 1 = .ok (.iload_n 2, 1) := by decide +kernel
theorem dJ7_copyOfRangeByte_39247_2 : decode cJ7_copyOfRangeByte_39247 2 = .ok (.invokestatic 343, 3) := by decide +kernel
theorem dJ7_copyOfRangeByte_39247_5 : decode cJ7_copyOfRangeByte_39247 5 = .ok (.iload_n 2, 1) := by decide +kernel
theorem dJ7_copyOfRangeByte_39247_6 : decode cJ7_copyOfRangeByte_39247 6 = .ok (.iload_n 1, 1) := by decide +kernel
theorem dJ7_copyOfRangeByte_39247_7 : decode cJ7_copyOfRangeByte_39247 7 = .ok (.isub, 1) := by decide +kernel
theorem dJ7_copyOfRangeByte_39247_8 : decode cJ7_copyOfRangeByte_39247 8 = .ok (.istore_n 3, 1) := by decide +kernel
theorem dJ7_copyOfRangeByte_39247_9 : decode cJ7_copyOfRangeByte_39247 9 = .ok (.iload_n 3, 1) := by decide +kernel
theorem dJ7_copyOfRangeByte_39247_10 : decode cJ7_copyOfRangeByte_39247 10 = .ok (.newarray .byte, 2) := by decide +kernel
theorem dJ7_copyOfRangeByte_39247_12 : decode cJ7_copyOfRangeByte_39247 12 = .ok (.astore 4, 2) := by decide +kernel
theorem dJ7_copyOfRangeByte_39247_14 : decode cJ7_copyOfRangeByte_39247 14 = .ok (.aload_n 0, 1) := by decide +kernel
theorem dJ7_copyOfRangeByte_39247_15 : decode cJ7_copyOfRangeByte_39247 15 = .ok (.iload_n 1, 1) := by decide +kernel
theorem dJ7_copyOfRangeByte_39247_16 : decode cJ7_copyOfRangeByte_39247 16 = .ok (.aload 4, 2) := by decide +kernel
theorem dJ7_copyOfRangeByte_39247_18 : decode cJ7_copyOfRangeByte_39247 18 = .ok (.iconst 0, 1) := by decide +kernel
theorem dJ7_copyOfRangeByte_39247_19 : decode cJ7_copyOfRangeByte_39247 19 = .ok (.aload_n 0, 1) := by decide +kernel
theorem dJ7_copyOfRangeByte_39247_20 : decode cJ7_copyOfRangeByte_39247 20 = .ok (.arraylength, 1) := by decide +kernel
theorem dJ7_copyOfRangeByte_39247_21 : decode cJ7_copyOfRangeByte_39247 21 = .ok (.iload_n 1, 1) := by decide +kernel
theorem dJ7_copyOfRangeByte_39247_22 : decode cJ7_copyOfRangeByte_39247 22 = .ok (.isub, 1) := by decide +kernel
theorem dJ7_copyOfRangeByte_39247_23 : decode cJ7_copyOfRangeByte_39247 23 = .ok (.iload_n 3, 1) := by decide +kernel
theorem dJ7_copyOfRangeByte_39247_24 : decode cJ7_copyOfRangeByte_39247 24 = .ok (.invokestatic 304, 3) := by decide +kernel
theorem dJ7_copyOfRangeByte_39247_27 : decode cJ7_copyOfRangeByte_39247 27 = .ok (.invokestatic 150, 3) := by decide +kernel
theorem dJ7_copyOfRangeByte_39247_30 : decode cJ7_copyOfRangeByte_39247 30 = .ok (.aload 4, 2) := by decide +kernel
theorem dJ7_copyOfRangeByte_39247_32 : decode cJ7_copyOfRangeByte_39247 32 = .ok (.areturn, 1) := by decide +kernel
theorem dJ7_copyOfRange_39247_0 : decode cJ7_copyOfRange_39247 0 = .ok (.iload_n 1, 1) := by decide +kernel
theorem dJ7_copyOfRange_39247_1 : decode cJ7_copyOfRange_39247 1 = .ok (.ifCond .ne 9, 3) := by decide +kernel
theorem dJ7_copyOfRange_39247_4 : decode cJ7_copyOfRange_39247 4 = .ok (.iload_n 2, 1) := by decide +kernel
theorem dJ7_copyOfRange_39247_5 : decode cJ7_copyOfRange_39247 5 = .ok (.aload_n 0, 1) := by decide +kernel
theorem dJ7_copyOfRange_39247_6 : decode cJ7_copyOfRange_39247 6 = .ok (.arraylength, 1) := by decide +kernel
theorem dJ7_copyOfRange_39247_7 : decode cJ7_copyOfRange_39247 7 = .ok (.if_icmp .eq 10, 3) := by decide +kernel
theorem dJ7_copyOfRange_39247_10 : decode cJ7_copyOfRange_39247 10 = .ok (.aload_n 0, 1) := by decide +kernel
theorem dJ7_copyOfRange_39247_11 : decode cJ7_copyOfRange_39247 11 = .ok (.iload_n 1, 1) := by decide +kernel
theorem dJ7_copyOfRange_39247_12 : decode cJ7_copyOfRange_39247 12 = .ok (.iload_n 2, 1) := by decide +kernel
theorem dJ7_copyOfRange_39247_13 : decode cJ7_copyOfRange_39247 13 = .ok (.invokestatic 339, 3) := by decide +kernel
theorem dJ7_copyOfRange_39247_16 : decode cJ7_copyOfRange_39247 16 = .ok (.areturn, 1) := by decide +kernel
theorem dJ7_copyOfRange_39247_17 : decode cJ7_copyOfRange_39247 17 = .ok (.aload_n 0, 1) := by decide +kernel
theorem dJ7_copyOfRange_39247_18 : decode cJ7_copyOfRange_39247 18 = .ok (.invokevirtual 310, 3) := by decide +kernel
theorem dJ7_copyOfRange_39247_21 : decode cJ7_copyOfRange_39247 21 = .ok (.checkcast 311, 3) := by decide +kernel
theorem dJ7_copyOfRange_39247_24 : decode cJ7_copyOfRange_39247 24 = .ok (.areturn, 1) := by decide +kernel
theorem dJ1_newString_b4f7a_0 : decode cJ1_newString_b4f7a 0 = .ok (.iload_n 2, 1) := by decide +kernel
theorem dJ1_newString_b4f7a_1 : decode cJ1_newString_b4f7a 1 = .ok (.ifCond .ne 6, 3) := by decide +kernel
theorem dJ1_newString_b4f7a_4 : decode cJ1_newString_b4f7a 4 = .ok (.ldc 151, 2) := by decide +kernel
theorem dJ1_newString_b4f7a_6 : decode cJ1_newString_b4f7a 6 = .ok (.areturn, 1) := by decide +kernel
theorem dJ1_newString_b4f7a_7 : decode cJ1_newString_b4f7a 7 = .ok (.new 1, 3) := by decide +kernel
theorem dJ1_newString_b4f7a_10 : decode cJ1_newString_b4f7a 10 = .ok (.dup, 1) := by decide +kernel
theorem dJ1_newString_b4f7a_11 : decode cJ1_newString_b4f7a 11 = .ok (.aload_n 0, 1) := by decide +kernel
theorem dJ1_newString_b4f7a_12 : decode cJ1_newString_b4f7a 12 = .ok (.iload_n 1, 1) := by decide +kernel
theorem dJ1_newString_b4f7a_13 : decode cJ1_newString_b4f7a 13 = .ok (.iload_n 1, 1) := by decide +kernel
theorem dJ1_newString_b4f7a_14 : decode cJ1_newString_b4f7a 14 = .ok (.iload_n 2, 1) := by decide +kernel
theorem dJ1_newString_b4f7a_15 : decode cJ1_newString_b4f7a 15 = .ok (.iadd, 1) := by decide +kernel
theorem dJ1_newString_b4f7a_16 : decode cJ1_newString_b4f7a 16 = .ok (.invokestatic 232, 3) := by decide +kernel
theorem dJ1_newString_b4f7a_19 : decode cJ1_newString_b4f7a 19 = .ok (.iconst 0, 1) := by decide +kernel
theorem dJ1_newString_b4f7a_20 : decode cJ1_newString_b4f7a 20 = .ok (.invokespecial 112, 3) := by decide +kernel
theorem dJ1_newString_b4f7a_23 : decode cJ1_newString_b4f7a 23 = .ok (.areturn, 1) := by decide +kernel
theorem dJ0_substring_37a41_0 : decode cJ0_substring_37a41 0 = .ok (.aload_n 0, 1) := by decide +kernel
theorem dJ0_substring_37a41_1 : decode cJ0_substring_37a41 1 = .ok (.invokevirtual 505, 3) := by decide +kernel
theorem dJ0_substring_37a41_4 : decode cJ0_substring_37a41 4 = .ok (.istore_n 3, 1) := by decide +kernel
theorem dJ0_substring_37a41_5 : decode cJ0_substring_37a41 5 = .ok (.iload_n 1, 1) := by decide +kernel
theorem dJ0_substring_37a41_6 : decode cJ0_substring_37a41 6 = .ok (.iload_n 2, 1) := by decide +kernel
theorem dJ0_substring_37a41_7 : decode cJ0_substring_37a41 7 = .ok (.iload_n 3, 1) := by decide +kernel
theorem dJ0_substring_37a41_8 : decode cJ0_substring_37a41 8 = .ok (.invokestatic 521, 3) := by decide +kernel
theorem dJ0_substring_37a41_11 : decode cJ0_substring_37a41 11 = .ok (.iload_n 1, 1) := by decide +kernel
theorem dJ0_substring_37a41_12 : decode cJ0_substring_37a41 12 = .ok (.ifCond .ne 10, 3) := by decide +kernel
theorem dJ0_substring_37a41_15 : decode cJ0_substring_37a41 15 = .ok (.iload_n 2, 1) := by decide +kernel
theorem dJ0_substring_37a41_16 : decode cJ0_substring_37a41 16 = .ok (.iload_n 3, 1) := by decide +kernel
theorem dJ0_substring_37a41_17 : decode cJ0_substring_37a41 17 = .ok (.if_icmp .ne 5, 3) := by decide +kernel
theorem dJ0_substring_37a41_20 : decode cJ0_substring_37a41 20 = .ok (.aload_n 0, 1) := by decide +kernel
theorem dJ0_substring_37a41_21 : decode cJ0_substring_37a41 21 = .ok (.areturn, 1) := by decide +kernel
theorem dJ0_substring_37a41_22 : decode cJ0_substring_37a41 22 = .ok (.iload_n 2, 1) := by decide +kernel
theorem dJ0_substring_37a41_23 : decode cJ0_substring_37a41 23 = .ok (.iload_n 1, 1) := by decide +kernel
theorem dJ0_substring_37a41_24 : decode cJ0_substring_37a41 24 = .ok (.isub, 1) := by decide +kernel
theorem dJ0_substring_37a41_25 : decode cJ0_substring_37a41 25 = .ok (.istore 4, 2) := by decide +kernel
theorem dJ0_substring_37a41_27 : decode cJ0_substring_37a41 27 = .ok (.aload_n 0, 1) := by decide +kernel
theorem dJ0_substring_37a41_28 : decode cJ0_substring_37a41 28 = .ok (.invokevirtual 492, 3) := by decide +kernel
theorem dJ0_substring_37a41_31 : decode cJ0_substring_37a41 31 = .ok (.ifCond .eq 16, 3) := by decide +kernel
theorem dJ0_substring_37a41_34 : decode cJ0_substring_37a41 34 = .ok (.aload_n 0, 1) := by decide +kernel
theorem dJ0_substring_37a41_35 : decode cJ0_substring_37a41 35 = .ok (.getfield 9, 3) := by decide +kernel
theorem dJ0_substring_37a41_38 : decode cJ0_substring_37a41 38 = .ok (.iload_n 1, 1) := by decide +kernel
theorem dJ0_substring_37a41_39 : decode cJ0_substring_37a41 39 = .ok (.iload 4, 2) := by decide +kernel
theorem dJ0_substring_37a41_41 : decode cJ0_substring_37a41 41 = .ok (.invokestatic 685, 3) := by decide +kernel
theorem dJ0_substring_37a41_44 : decode cJ0_substring_37a41 44 = .ok (.goto 13, 3) := by decide +kernel
theorem dJ0_substring_37a41_47 : decode cJ0_substring_37a41 47 = .ok (.aload_n 0, 1) := by decide +kernel
theorem dJ0_substring_37a41_48 : decode cJ0_substring_37a41 48 = .ok (.getfield 9, 3) := by decide +kernel
theorem dJ0_substring_37a41_51 : decode cJ0_substring_37a41 51 = .ok (.iload_n 1, 1) := by decide +kernel
theorem dJ0_substring_37a41_52 : decode cJ0_substring_37a41 52 = .ok (.iload 4, 2) := by decide +kernel
theorem dJ0_substring_37a41_54 : decode cJ0_substring_37a41 54 = .ok (.invokestatic 689, 3) := by decide +kernel
theorem dJ0_substring_37a41_57 : decode cJ0_substring_37a41 57 = .ok (.areturn, 1) := by decide +kernel
theorem dJ0_checkBoundsBeginEnd_23922_0 : decode cJ0_checkBoundsBeginEnd_23922 0 = .ok (.iload_n 0, 1) := by decide +kernel
theorem dJ0_checkBoundsBeginEnd_23922_1 : decode cJ0_checkBoundsBeginEnd_23922 1 = .ok (.iload_n 1, 1) := by decide +kernel
theorem dJ0_checkBoundsBeginEnd_23922_2 : decode cJ0_checkBoundsBeginEnd_23922 2 = .ok (.iload_n 2, 1) := by decide +kernel
theorem dJ0_checkBoundsBeginEnd_23922_3 : decode cJ0_checkBoundsBeginEnd_23922 3 = .ok (.getstatic 1053, 3) := by decide +kernel
theorem dJ0_checkBoundsBeginEnd_23922_6 : decode cJ0_checkBoundsBeginEnd_23922 6 = .ok (.invokestatic 1062, 3) := by decide +kernel
theorem dJ0_checkBoundsBeginEnd_23922_9 : decode cJ0_checkBoundsBeginEnd_23922 9 = .ok (.pop, 1) := by decide +kernel
theorem dJ0_checkBoundsBeginEnd_23922_10 : decode cJ0_checkBoundsBeginEnd_23922 10 = .ok (.return_, 1) := by decide +kernel
theorem dJ3_checkFromToIndex_8c36e_0 : decode cJ3_checkFromToIndex_8c36e 0 = .ok (.iload_n 0, 1) := by decide +kernel
theorem dJ3_checkFromToIndex_8c36e_1 : decode cJ3_checkFromToIndex_8c36e 1 = .ok (.ifCond .lt 13, 3) := by decide +kernel
theorem dJ3_checkFromToIndex_8c36e_4 : decode cJ3_checkFromToIndex_8c36e 4 = .ok (.iload_n 0, 1) := by decide +kernel
theorem dJ3_checkFromToIndex_8c36e_5 : decode cJ3_checkFromToIndex_8c36e 5 = .ok (.iload_n 1, 1) := by decide +kernel
theorem dJ3_checkFromToIndex_8c36e_6 : decode cJ3_checkFromToIndex_8c36e 6 = .ok (.if_icmp .gt 8, 3) := by decide +kernel
theorem dJ3_checkFromToIndex_8c36e_9 : decode cJ3_checkFromToIndex_8c36e 9 = .ok (.iload_n 1, 1) := by decide +kernel
theorem dJ3_checkFromToIndex_8c36e_10 : decode cJ3_checkFromToIndex_8c36e 10 = .ok (.iload_n 2, 1) := by decide +kernel
theorem dJ3_checkFromToIndex_8c36e_11 : decode cJ3_checkFromToIndex_8c36e 11 = .ok (.if_icmp .le 11, 3) := by decide +kernel
theorem dJ3_checkFromToIndex_8c36e_14 : decode cJ3_checkFromToIndex_8c36e 14 = .ok (.aload_n 3, 1) := by decide +kernel
theorem dJ3_checkFromToIndex_8c36e_15 : decode cJ3_checkFromToIndex_8c36e 15 = .ok (.iload_n 0, 1) := by decide +kernel
theorem dJ3_checkFromToIndex_8c36e_16 : decode cJ3_checkFromToIndex_8c36e 16 = .ok (.iload_n 1, 1) := by decide +kernel
theorem dJ3_checkFromToIndex_8c36e_17 : decode cJ3_checkFromToIndex_8c36e 17 = .ok (.iload_n 2, 1) := by decide +kernel
theorem dJ3_checkFromToIndex_8c36e_18 : decode cJ3_checkFromToIndex_8c36e 18 = .ok (.invokestatic 99, 3) := by decide +kernel
theorem dJ3_checkFromToIndex_8c36e_21 : decode cJ3_checkFromToIndex_8c36e 21 = .ok (.athrow, 1) := by decide +kernel
theorem dJ3_checkFromToIndex_8c36e_22 : decode cJ3_checkFromToIndex_8c36e 22 = .ok (.iload_n 0, 1) := by decide +kernel
theorem dJ3_checkFromToIndex_8c36e_23 : decode cJ3_checkFromToIndex_8c36e 23 = .ok (.ireturn, 1) := by decide +kernel
theorem dJ7_checkLength_df160_0 : decode cJ7_checkLength_df160 0 = .ok (.iload_n 1, 1) := by decide +kernel
theorem dJ7_checkLength_df160_1 : decode cJ7_checkLength_df160 1 = .ok (.iload_n 0, 1) := by decide +kernel
theorem dJ7_checkLength_df160_2 : decode cJ7_checkLength_df160 2 = .ok (.if_icmp .ge 35, 3) := by decide +kernel
theorem dJ7_checkLength_df160_5 : decode cJ7_checkLength_df160 5 = .ok (.new 43, 3) := by decide +kernel
theorem dJ7_checkLength_df160_8 : decode cJ7_checkLength_df160 8 = .ok (.dup, 1) := by decide +kernel
theorem dJ7_checkLength_df160_9 : decode cJ7_checkLength_df160 9 = .ok (.new 45, 3) := by decide +kernel
theorem dJ7_checkLength_df160_12 : decode cJ7_checkLength_df160 12 = .ok (.dup, 1) := by decide +kernel
theorem dJ7_checkLength_df160_13 : decode cJ7_checkLength_df160 13 = .ok (.invokespecial 47, 3) := by decide +kernel
theorem dJ7_checkLength_df160_16 : decode cJ7_checkLength_df160 16 = .ok (.iload_n 0, 1) := by decide +kernel
theorem dJ7_checkLength_df160_17 : decode cJ7_checkLength_df160 17 = .ok (.invokevirtual 54, 3) := by decide +kernel
theorem dJ7_checkLength_df160_20 : decode cJ7_checkLength_df160 20 = .ok (.ldc_w 337, 3) := by decide +kernel
theorem dJ7_checkLength_df160_23 : decode cJ7_checkLength_df160 23 = .ok (.invokevirtual 50, 3) := by decide +kernel
theorem dJ7_checkLength_df160_26 : decode cJ7_checkLength_df160 26 = .ok (.iload_n 1, 1) := by decide +kernel
theorem dJ7_checkLength_df160_27 : decode cJ7_checkLength_df160 27 = .ok (.invokevirtual 54, 3) := by decide +kernel
theorem dJ7_checkLength_df160_30 : decode cJ7_checkLength_df160 30 = .ok (.invokevirtual 61, 3) := by decide +kernel
theorem dJ7_checkLength_df160_33 : decode cJ7_checkLength_df160 33 = .ok (.invokespecial 65, 3) := by decide +kernel
theorem dJ7_checkLength_df160_36 : decode cJ7_checkLength_df160 36 = .ok (.athrow, 1) := by decide +kernel
theorem dJ7_checkLength_df160_37 : decode cJ7_checkLength_df160 37 = .ok (.return_, 1) := by decide +kernel
def mv_wf (h : mv_H) : Prop := ∀ a, h.1 ≤ a → h.2.2 a = none
theorem mv_wf_ne {h : mv_H} {b : Nat} {e : va_E} (hw : mv_wf h) (hb : h.2.2 b = some e) : b ≠ h.1 := fun z => by
  rw [z, hw _ (Nat.le_refl _)] at hb
  cases hb
theorem mv_wf_lt {h : mv_H} {b : Nat} {e : va_E} (hw : mv_wf h) (hb : h.2.2 b = some e) : b < h.1 := by
  rcases Nat.lt_or_ge b h.1 with z | z
  · exact z
  · rw [hw _ z] at hb
    cases hb
theorem mv_wf_new {h : mv_H} {n : Nat} {e : va_E} (hw : mv_wf h) : mv_wf (mv_new h n e) := fun a ha => by
  have ha' : h.1 + 1 ≤ a := ha
  show (if a = h.1 then some e else h.2.2 a) = none
  rw [if_neg (by omega)]
  exact hw a (by omega)
theorem mv_wf_set {h : mv_H} {a : Nat} {e e0 : va_E} (hw : mv_wf h) (ha : h.2.2 a = some e0) : mv_wf (mv_set h a e) := fun b hb => by
  have hb' : h.1 ≤ b := hb
  show (if b = a then some e else h.2.2 b) = none
  rw [if_neg (by have := mv_wf_lt hw ha; omega)]
  exact hw b hb'
theorem mth_min_s : Cond.static Lib.Math.min.name ∈ lw_tbl := mv_at 328 (by decide +kernel)
theorem mth_min_c : Cond.code Lib.Math.min.name Lib.Math.min.code 2 (some .int) ∈ lw_tbl := mv_at 329 (by decide +kernel)
theorem mth_max_s : Cond.static Lib.Math.max.name ∈ lw_tbl := mv_at 310 (by decide +kernel)
theorem mth_max_c : Cond.code Lib.Math.max.name Lib.Math.max.code 2 (some .int) ∈ lw_tbl := mv_at 311 (by decide +kernel)
theorem mth_i : Cond.initialized "java/lang/Math" ∈ lw_tbl := mv_at 15 (by decide +kernel)
theorem ml_RJ8_194 : Cond.methodLink RJ8 194 Lib.Math.max.name ∈ lw_tbl := mv_at 309 (by decide +kernel)
theorem ml_RJ7_304 : Cond.methodLink RJ7 304 Lib.Math.min.name ∈ lw_tbl := mv_at 327 (by decide +kernel)
theorem mac_RJ7_150 : Cond.methodLink RJ7 150 arraycopyName ∈ lw_tbl := mv_at 330 (by decide +kernel)
theorem mac_RJ0_212 : Cond.methodLink RJ0 212 arraycopyName ∈ lw_tbl := mv_at 543 (by decide +kernel)
theorem ml_RJ5_138 : Cond.methodLink RJ5 138 Lib.Math.min.name ∈ lw_tbl := mv_at 672 (by decide +kernel)
theorem ml_RX3_175 : Cond.methodLink RX3 175 Lib.Math.max.name ∈ lw_tbl := mv_at 1257 (by decide +kernel)
theorem ml_RX3_277 : Cond.methodLink RX3 277 Lib.Math.min.name ∈ lw_tbl := mv_at 1312 (by decide +kernel)
theorem ac_n : Cond.native arraycopyName ∈ lw_tbl := mv_at 332 (by decide +kernel)
theorem ac_s : Cond.static arraycopyName ∈ lw_tbl := mv_at 331 (by decide +kernel)
theorem ac_i : Cond.initialized "java/lang/System" ∈ lw_tbl := mv_at 17 (by decide +kernel)
set_option maxRecDepth 100000 in
set_option maxHeartbeats 4000000 in
theorem sp_sinit {l : Launch} {G : mv_G} {d : Nat} {h : mv_H} (hG : mv_ok G) {a b : Nat} {v1 v2 v3 v4 : Int32} {k : Int32} (fa : h.2.2 a = some (.inr (0, [.null, .int 0, .int 0, .int 0]))) (ha : G.2.2.1 ≤ a) (hd : 2 ≤ d) : mv_rq l G mJ0_init_031fb d 0 (mv_in [.ref a, .ref b, .int 0] 3) [] h (fun o h1 => o = .inl none ∧ mv_set h a (.inr (0, [.ref b, .int 0, .int 0, .int 0])) = h1) := by
  obtain ⟨d, rfl⟩ : ∃ e, d = e + 1 := ⟨d - 1, by omega⟩
  show mv_rq l G mJ0_init_031fb (d + 1) 0 [some (.ref a), some (.ref b), some (.int 0)] [] h _
  refine q_aload_n dJ0_init_031fb_0 rfl ?_
  refine q_objI dJ0_init_031fb_1 ml_RJ0_1 obj_in obj_co rfl (Nat.le_of_ble_eq_true rfl) ?_
  refine q_aload_n dJ0_init_031fb_4 rfl ?_
  refine q_aload_n dJ0_init_031fb_5 rfl ?_
  refine q_putF (k := 0) (T := TJ0) (C0 := RJ0) (N := 4) (ci := 0) (ty := (.array .byte)) tyJ0 tyJ0_ok nmJ0 dJ0_init_031fb_6 fl_RJ0_9 rfl uin_RJ0 (by decide) rfl rfl rfl rfl (by decide +kernel) rfl rfl ha fa (Nat.le_of_ble_eq_true rfl) ?_
  show mv_rq l G mJ0_init_031fb (d + 1) 9 [some (.ref a), some (.ref b), some (.int 0)] [] (mv_set h a (.inr (0, [.ref b, .int 0, .int 0, .int 0]))) _
  obtain ⟨h_1, eh_1⟩ : ∃ z, z = mv_set h a (.inr (0, [.ref b, .int 0, .int 0, .int 0])) := ⟨_, rfl⟩
  rw [← eh_1]
  have fh_1_a : h_1.2.2 a = some (.inr (0, [.ref b, .int 0, .int 0, .int 0])) := by rw [eh_1]; exact mv_set_s
  refine q_aload_n dJ0_init_031fb_9 rfl ?_
  refine q_iload_n dJ0_init_031fb_10 rfl ?_
  refine q_putF (k := 1) (T := TJ0) (C0 := RJ0) (N := 4) (ci := 0) (ty := .byte) tyJ0 tyJ0_ok nmJ0 dJ0_init_031fb_11 fl_RJ0_15 rfl uin_RJ0 (by decide) rfl rfl rfl rfl (by decide +kernel) rfl rfl ha fh_1_a (Nat.le_of_ble_eq_true rfl) ?_
  show mv_rq l G mJ0_init_031fb (d + 1) 14 [some (.ref a), some (.ref b), some (.int 0)] [] (mv_set h_1 a (.inr (0, [.ref b, .int 0, .int 0, .int 0]))) _
  obtain ⟨h_2, eh_2⟩ : ∃ z, z = mv_set h_1 a (.inr (0, [.ref b, .int 0, .int 0, .int 0])) := ⟨_, rfl⟩
  rw [← eh_2]
  have fh_2_a : h_2.2.2 a = some (.inr (0, [.ref b, .int 0, .int 0, .int 0])) := by rw [eh_2]; exact mv_set_s
  exact q_vret dJ0_init_031fb_14 rfl ⟨rfl, by rw [eh_2, eh_1, mv_set_set]⟩
theorem mv_set_new {h : mv_H} {n : Nat} {e e' : va_E} : mv_set (mv_new h n e) h.1 e' = mv_new h n e' := by
  unfold mv_set mv_new
  refine congrArg (Prod.mk (h.1 + 1)) (congrArg (Prod.mk (h.2.1 + n)) (funext fun b => ?_))
  by_cases hb : b = h.1
  · simp [hb]
  · simp [hb]
theorem nsub {a b : Nat} (h : b ≤ a) : nI a - nI b = nI (a - b) := pk_sub h
set_option maxRecDepth 100000 in
set_option maxHeartbeats 4000000 in
theorem sp_chkLen {l : Launch} {G : mv_G} {d : Nat} {h : mv_H} (hG : mv_ok G) {a b : Int32} (hab : a ≤ b) (hd : 1 ≤ d) : mv_rq l G mJ7_checkLength_df160 d 0 (mv_in [.int a, .int b] 2) [] h (fun o h1 => o = .inl none ∧ h = h1) := by
  obtain ⟨d, rfl⟩ : ∃ e, d = e + 1 := ⟨d - 1, by omega⟩
  show mv_rq l G mJ7_checkLength_df160 (d + 1) 0 [some (.int a), some (.int b)] [] h _
  refine q_iload_n dJ7_checkLength_df160_0 rfl ?_
  refine q_iload_n dJ7_checkLength_df160_1 rfl ?_
  refine q_icmp_ge (tgt := 37) dJ7_checkLength_df160_2 (by decide) (fun _ => ?_) (fun z => absurd (hab) z)
  exact q_vret dJ7_checkLength_df160_37 rfl ⟨rfl, rfl⟩
set_option maxRecDepth 100000 in
set_option maxHeartbeats 4000000 in
theorem sp_corb {l : Launch} {G : mv_G} {d : Nat} {h : mv_H} (hG : mv_ok G) {q n : Nat} {f : Nat → Int32} (fq : h.2.2 q = some (.inl (mv_t G 0, n, .inl f))) {b e : Nat} (hbe : b ≤ e) (hen : e ≤ n) (hn : n < 65536) (hfit : ∀ j, j < n → fits .byte (.int (f j)) = true) (hwf : mv_wf h) (hbs : G.2.2.1 ≤ h.1) (hd : 2 ≤ d) : mv_rq l G mJ7_copyOfRangeByte_39247 d 0 (mv_in [.ref q, .int (nI b), .int (nI e)] 5) [] h (fun o h1 => o = .inl (some (.ref h.1)) ∧ mv_new h (e - b) (.inl (mv_t G 0, e - b, .inl (va_cpy f (fun _ => 0) b 0 (e - b)))) = h1) := by
  obtain ⟨d, rfl⟩ : ∃ e, d = e + 1 := ⟨d - 1, by omega⟩
  show mv_rq l G mJ7_copyOfRangeByte_39247 (d + 1) 0 [some (.ref q), some (.int (nI b)), some (.int (nI e)), none, none] [] h _
  refine q_iload_n dJ7_copyOfRangeByte_39247_0 rfl ?_
  refine q_iload_n dJ7_copyOfRangeByte_39247_1 rfl ?_
  refine q_cS (Y := mJ7_checkLength_df160) (As := [.int (nI b), .int (nI e)]) (st := []) sc_J7_checkLength_df160 dJ7_copyOfRangeByte_39247_2 ml_RJ7_343 rfl (Nat.le_of_ble_eq_true rfl) rfl (Nat.le_of_ble_eq_true rfl) (sp_chkLen hG (nI_le hbe (by omega)) (by omega)) (fun v h1 hq => ?_) (fun E h1 hq => nomatch hq.1)
  obtain ⟨hv, rfl⟩ := hq
  cases hv
  show mv_rq l G mJ7_copyOfRangeByte_39247 (d + 1) 5 [some (.ref q), some (.int (nI b)), some (.int (nI e)), none, none] [] h _
  refine q_iload_n dJ7_copyOfRangeByte_39247_5 rfl ?_
  refine q_iload_n dJ7_copyOfRangeByte_39247_6 rfl ?_
  refine q_isub dJ7_copyOfRangeByte_39247_7 ?_
  rw [nsub hbe]
  show mv_rq l G mJ7_copyOfRangeByte_39247 (d + 1) 8 [some (.ref q), some (.int (nI b)), some (.int (nI e)), none, none] [.int (nI (e - b))] h _
  refine q_istore_n dJ7_copyOfRangeByte_39247_8 (Nat.le_of_ble_eq_true rfl) rfl ?_
  show mv_rq l G mJ7_copyOfRangeByte_39247 (d + 1) 9 [some (.ref q), some (.int (nI b)), some (.int (nI e)), some (.int (nI (e - b))), none] [] h _
  refine q_iload_n dJ7_copyOfRangeByte_39247_9 rfl ?_
  refine q_newa (t0 := 0) (N := (e - b)) (a0 := ((e - b), .inl (fun _ => 0))) dJ7_copyOfRangeByte_39247_10 rfl (fun _ z => nomatch z) arr_byte (mv_tB hG) rfl (nI_pos (by omega)) (nI_clamp (by omega)) (by show (e - b) * 1 ≤ _; omega) ?_
  show mv_rq l G mJ7_copyOfRangeByte_39247 (d + 1) 12 [some (.ref q), some (.int (nI b)), some (.int (nI e)), some (.int (nI (e - b))), none] [.ref h.1] (mv_new h (e - b) (.inl (mv_t G 0, (e - b), .inl (fun _ => 0)))) _
  obtain ⟨h_1, eh_1⟩ : ∃ z, z = mv_new h (e - b) (.inl (mv_t G 0, (e - b), .inl (fun _ => 0))) := ⟨_, rfl⟩
  rw [← eh_1]
  obtain ⟨a_1, ea_1⟩ : ∃ z, z = h.1 := ⟨_, rfl⟩
  rw [← ea_1]
  have fh_1_a_1 : h_1.2.2 a_1 = some (.inl (mv_t G 0, (e - b), .inl (fun _ => 0))) := by rw [eh_1, ea_1]; exact mv_new_s
  have n1_q : q ≠ a_1 := by rw [ea_1]; exact mv_wf_ne hwf fq
  have fh_1_q := (show h_1.2.2 q = _ by rw [eh_1]; exact mv_new_n (by rw [← ea_1]; exact n1_q)).trans fq
  have wfh_1 : mv_wf h_1 := by rw [eh_1]; exact mv_wf_new hwf
  have hbh_1 : G.2.2.1 ≤ h_1.1 := by rw [eh_1]; exact Nat.le_succ_of_le hbs
  have gea_1 : G.2.2.1 ≤ a_1 := by rw [ea_1]; exact hbs
  show mv_rq l G mJ7_copyOfRangeByte_39247 (d + 1) 12 [some (.ref q), some (.int (nI b)), some (.int (nI e)), some (.int (nI (e - b))), none] [.ref a_1] h_1 _
  refine q_astore dJ7_copyOfRangeByte_39247_12 (Nat.le_of_ble_eq_true rfl) rfl ?_
  show mv_rq l G mJ7_copyOfRangeByte_39247 (d + 1) 14 [some (.ref q), some (.int (nI b)), some (.int (nI e)), some (.int (nI (e - b))), some (.ref a_1)] [] h_1 _
  refine q_aload_n dJ7_copyOfRangeByte_39247_14 rfl ?_
  refine q_iload_n dJ7_copyOfRangeByte_39247_15 rfl ?_
  refine q_aload dJ7_copyOfRangeByte_39247_16 rfl ?_
  refine q_iconst (v := 0) dJ7_copyOfRangeByte_39247_18 (by decide) ?_
  refine q_aload_n dJ7_copyOfRangeByte_39247_19 rfl ?_
  refine q_alen (t0 := 0) dJ7_copyOfRangeByte_39247_20 (mv_tB hG) fh_1_q ?_
  refine q_iload_n dJ7_copyOfRangeByte_39247_21 rfl ?_
  refine q_isub dJ7_copyOfRangeByte_39247_22 ?_
  refine q_iload_n dJ7_copyOfRangeByte_39247_23 rfl ?_
  refine q_mmin dJ7_copyOfRangeByte_39247_24 ml_RJ7_304 mth_min_s mth_i mth_min_c rfl (Nat.le_of_ble_eq_true rfl) ?_
  rw [show (if nI (e - b) < (Int32.ofNat n - nI b) then nI (e - b) else (Int32.ofNat n - nI b)) = nI (e - b) from by
      rw [show Int32.ofNat n - nI b = nI (n - b) from nsub (by omega)]
      by_cases z : e - b < n - b
      · rw [if_pos (nI_lt z (by omega))]
      · rw [if_neg (nI_nlt (by omega) (by omega)), show n - b = e - b by omega]]
  show mv_rq l G mJ7_copyOfRangeByte_39247 (d + 1) 27 [some (.ref q), some (.int (nI b)), some (.int (nI e)), some (.int (nI (e - b))), some (.ref a_1)] [.int (nI (e - b)), .int 0, .ref a_1, .int (nI b), .ref q] h_1 _
  refine q_copyb (t0 := 0) (sp := b) (dp := 0) (n := (e - b)) dJ7_copyOfRangeByte_39247_27 mac_RJ7_150 ac_n ac_s ac_i (mv_tB hG) fh_1_q fh_1_a_1 gea_1 (by omega) (by omega) (by omega) (by omega) (by omega) (fun i hi => hfit _ (by omega)) rfl (Nat.le_of_ble_eq_true rfl) ?_
  show mv_rq l G mJ7_copyOfRangeByte_39247 (d + 1) 30 [some (.ref q), some (.int (nI b)), some (.int (nI e)), some (.int (nI (e - b))), some (.ref a_1)] [] (mv_set h_1 a_1 (.inl (mv_t G 0, (e - b), .inl (va_cpy f ((fun _ => 0)) b 0 ((e - b)))))) _
  obtain ⟨h_2, eh_2⟩ : ∃ z, z = mv_set h_1 a_1 (.inl (mv_t G 0, (e - b), .inl (va_cpy f ((fun _ => 0)) b 0 ((e - b))))) := ⟨_, rfl⟩
  rw [← eh_2]
  have fh_2_a_1 : h_2.2.2 a_1 = some (.inl (mv_t G 0, (e - b), .inl ((va_cpy f ((fun _ => 0)) b 0 ((e - b)))))) := by rw [eh_2]; exact mv_set_s
  have fh_2_q := (show h_2.2.2 q = _ by rw [eh_2]; exact mv_set_n n1_q).trans fh_1_q
  have wfh_2 : mv_wf h_2 := by rw [eh_2]; exact mv_wf_set wfh_1 fh_1_a_1
  have hbh_2 : G.2.2.1 ≤ h_2.1 := by rw [eh_2]; exact hbh_1
  refine q_aload dJ7_copyOfRangeByte_39247_30 rfl ?_
  exact q_aret (rt := (.array .byte)) dJ7_copyOfRangeByte_39247_32 rfl (Or.inr ⟨_, rfl⟩) (Or.inr ⟨_, rfl⟩) ⟨by rw [ea_1], by rw [eh_2, eh_1, ea_1, mv_set_new]⟩
set_option maxRecDepth 100000 in
set_option maxHeartbeats 4000000 in
theorem sp_cor {l : Launch} {G : mv_G} {d : Nat} {h : mv_H} (hG : mv_ok G) {q n : Nat} {f : Nat → Int32} (fq : h.2.2 q = some (.inl (mv_t G 0, n, .inl f))) {b e : Nat} (hbe : b ≤ e) (hen : e ≤ n) (hne : b ≠ 0 ∨ e ≠ n) (hn : n < 65536) (hfit : ∀ j, j < n → fits .byte (.int (f j)) = true) (hwf : mv_wf h) (hbs : G.2.2.1 ≤ h.1) (hd : 3 ≤ d) : mv_rq l G mJ7_copyOfRange_39247 d 0 (mv_in [.ref q, .int (nI b), .int (nI e)] 3) [] h (fun o h1 => o = .inl (some (.ref h.1)) ∧ mv_new h (e - b) (.inl (mv_t G 0, e - b, .inl (va_cpy f (fun _ => 0) b 0 (e - b)))) = h1) := by
  obtain ⟨d, rfl⟩ : ∃ e, d = e + 1 := ⟨d - 1, by omega⟩
  show mv_rq l G mJ7_copyOfRange_39247 (d + 1) 0 [some (.ref q), some (.int (nI b)), some (.int (nI e))] [] h _
  refine q_iload_n dJ7_copyOfRange_39247_0 rfl ?_
  refine q_if_ne (tgt := 10) dJ7_copyOfRange_39247_1 (by decide) (fun c_1 => ?_) (fun c_1 => ?_)
  ·
    refine q_aload_n dJ7_copyOfRange_39247_10 rfl ?_
    refine q_iload_n dJ7_copyOfRange_39247_11 rfl ?_
    refine q_iload_n dJ7_copyOfRange_39247_12 rfl ?_
    refine q_cS (Y := mJ7_copyOfRangeByte_39247) (As := [.ref q, .int (nI b), .int (nI e)]) (st := []) sc_J7_copyOfRangeByte_39247 dJ7_copyOfRange_39247_13 ml_RJ7_339 rfl (Nat.le_of_ble_eq_true rfl) rfl (Nat.le_of_ble_eq_true rfl) (sp_corb hG fq hbe hen hn hfit hwf hbs (by omega)) (fun v h1 hq => ?_) (fun E h1 hq => nomatch hq.1)
    obtain ⟨hv, rfl⟩ := hq
    cases hv
    show mv_rq l G mJ7_copyOfRange_39247 (d + 1) 16 [some (.ref q), some (.int (nI b)), some (.int (nI e))] [.ref h.1] (mv_new h (e - b) (.inl (mv_t G 0, e - b, .inl (va_cpy f (fun _ => 0) b 0 (e - b))))) _
    exact q_aret (rt := (.array .byte)) dJ7_copyOfRange_39247_16 rfl (Or.inr ⟨_, rfl⟩) (Or.inr ⟨_, rfl⟩) ⟨rfl, rfl⟩
  ·
    have b0 : b = 0 := (nI_eq (a := b) (b := 0) (by omega) (by omega)).mp c_1
    have e0 : e ≠ n := hne.resolve_left (fun z => z b0)
    refine q_iload_n dJ7_copyOfRange_39247_4 rfl ?_
    refine q_aload_n dJ7_copyOfRange_39247_5 rfl ?_
    refine q_alen (t0 := 0) dJ7_copyOfRange_39247_6 (mv_tB hG) fq ?_
    refine q_icmp_eq (tgt := 17) dJ7_copyOfRange_39247_7 (by decide) (fun z => absurd z (fun z => e0 ((nI_eq (a := e) (b := n) (by omega) (by omega)).mp z))) (fun _ => ?_)
    refine q_aload_n dJ7_copyOfRange_39247_10 rfl ?_
    refine q_iload_n dJ7_copyOfRange_39247_11 rfl ?_
    refine q_iload_n dJ7_copyOfRange_39247_12 rfl ?_
    refine q_cS (Y := mJ7_copyOfRangeByte_39247) (As := [.ref q, .int (nI b), .int (nI e)]) (st := []) sc_J7_copyOfRangeByte_39247 dJ7_copyOfRange_39247_13 ml_RJ7_339 rfl (Nat.le_of_ble_eq_true rfl) rfl (Nat.le_of_ble_eq_true rfl) (sp_corb hG fq hbe hen hn hfit hwf hbs (by omega)) (fun v h1 hq => ?_) (fun E h1 hq => nomatch hq.1)
    obtain ⟨hv, rfl⟩ := hq
    cases hv
    show mv_rq l G mJ7_copyOfRange_39247 (d + 1) 16 [some (.ref q), some (.int (nI b)), some (.int (nI e))] [.ref h.1] (mv_new h (e - b) (.inl (mv_t G 0, e - b, .inl (va_cpy f (fun _ => 0) b 0 (e - b))))) _
    exact q_aret (rt := (.array .byte)) dJ7_copyOfRange_39247_16 rfl (Or.inr ⟨_, rfl⟩) (Or.inr ⟨_, rfl⟩) ⟨rfl, rfl⟩
