section MVH
variable {l : Launch} {G : mv_G} {M : mv_M} {d pc : Nat} {L : List (Option Value)} {st st0 : List Value} {h : mv_H} {Q : mv_O → mv_H → Prop}
theorem q_cV {Y : mv_M} {As : List Value} {b ci idx N : Nat} {fs : List Value} {C0 : String} {T0 : u_T} {Qy : mv_O → mv_H → Prop} (hvc : mv_vc C0 Y As.length) (hd : decode M.2.1 pc = .ok (.invokevirtual idx, 3)) (hlk : Cond.methodLink M.1.cls idx Y.1 ∈ lw_tbl) (hst : st0 = As.reverse ++ .ref b :: st)
    (hg : h.2.2 b = some (.inr (ci, fs))) (hc : vwCl[ci]? = some (C0, T0, N)) (hnl : (mv_ent (.ref b :: As)).length ≤ Y.2.2.1) (hLn : L.length = M.2.2.1) (hmL : (st.map fun v => v.category).sum + (Y.2.2.1 + 11) ≤ 64)
    (hrq : mv_rq l G Y d 0 (mv_in (.ref b :: As) Y.2.2.1) [] h Qy) (kv : ∀ v h1, Qy (.inl v) h1 → mv_rq l G M (d + 1) (pc + 3) L (v.toList ++ st) h1 Q) (kx : ∀ E h1, Qy (.inr E) h1 → mv_xq l G M (d + 1) pc L E h1 Q) : mv_rq l G M (d + 1) pc L st0 h Q :=
  q_callV hd hst hg hc hlk hvc.1 hvc.2.1 hvc.2.2.1 hvc.2.2.2.1 hvc.2.2.2.2.1 hvc.2.2.2.2.2.1 hvc.2.2.2.2.2.2 hnl hLn hmL hrq kv kx
theorem q_cS {Y : mv_M} {As : List Value} {idx : Nat} {Qy : mv_O → mv_H → Prop} (hvc : mv_sc Y As.length) (hd : decode M.2.1 pc = .ok (.invokestatic idx, 3)) (hlk : Cond.methodLink M.1.cls idx Y.1 ∈ lw_tbl) (hst : st0 = As.reverse ++ st)
    (hnl : (mv_ent As).length ≤ Y.2.2.1) (hLn : L.length = M.2.2.1) (hmL : (st.map fun v => v.category).sum + (Y.2.2.1 + 11) ≤ 64)
    (hrq : mv_rq l G Y d 0 (mv_in As Y.2.2.1) [] h Qy) (kv : ∀ v h1, Qy (.inl v) h1 → mv_rq l G M (d + 1) (pc + 3) L (v.toList ++ st) h1 Q) (kx : ∀ E h1, Qy (.inr E) h1 → mv_xq l G M (d + 1) pc L E h1 Q) : mv_rq l G M (d + 1) pc L st0 h Q :=
  q_callS hd hst hlk hvc.1 hvc.2.1 hvc.2.2.1 hvc.2.2.2.1 hvc.2.2.2.2.1 hvc.2.2.2.2.2.1 hvc.2.2.2.2.2.2 hnl hLn hmL hrq kv kx
theorem q_cI {Y : mv_M} {As : List Value} {b idx : Nat} {Qy : mv_O → mv_H → Prop} (hvc : mv_ic Y As.length) (hd : decode M.2.1 pc = .ok (.invokespecial idx, 3)) (hlk : Cond.methodLink M.1.cls idx Y.1 ∈ lw_tbl) (hst : st0 = As.reverse ++ .ref b :: st)
    (hnl : (mv_ent (.ref b :: As)).length ≤ Y.2.2.1) (hLn : L.length = M.2.2.1) (hmL : (st.map fun v => v.category).sum + (Y.2.2.1 + 11) ≤ 64)
    (hrq : mv_rq l G Y d 0 (mv_in (.ref b :: As) Y.2.2.1) [] h Qy) (kv : ∀ v h1, Qy (.inl v) h1 → mv_rq l G M (d + 1) (pc + 3) L (v.toList ++ st) h1 Q) (kx : ∀ E h1, Qy (.inr E) h1 → mv_xq l G M (d + 1) pc L E h1 Q) : mv_rq l G M (d + 1) pc L st0 h Q :=
  q_callI hd hst hvc.1 hvc.2.1 hlk hvc.2.2.1 hvc.2.2.2.1 hvc.2.2.2.2.1 hvc.2.2.2.2.2.1 hvc.2.2.2.2.2.2.1 hvc.2.2.2.2.2.2.2 hnl hLn hmL hrq kv kx
theorem q_cIN {Y : mv_M} {As : List Value} {b idx : Nat} {host : String} {Qy : mv_O → mv_H → Prop} (hvc : mv_ic Y As.length) (hd : decode M.2.1 pc = .ok (.invokespecial idx, 3)) (hlk : Cond.methodLinkNest M.1.cls idx Y.1 host ∈ lw_tbl) (hst : st0 = As.reverse ++ .ref b :: st)
    (hnl : (mv_ent (.ref b :: As)).length ≤ Y.2.2.1) (hLn : L.length = M.2.2.1) (hmL : (st.map fun v => v.category).sum + (Y.2.2.1 + 11) ≤ 64)
    (hrq : mv_rq l G Y d 0 (mv_in (.ref b :: As) Y.2.2.1) [] h Qy) (kv : ∀ v h1, Qy (.inl v) h1 → mv_rq l G M (d + 1) (pc + 3) L (v.toList ++ st) h1 Q) (kx : ∀ E h1, Qy (.inr E) h1 → mv_xq l G M (d + 1) pc L E h1 Q) : mv_rq l G M (d + 1) pc L st0 h Q :=
  q_callIN hd hst hvc.1 hvc.2.1 hlk hvc.2.2.1 hvc.2.2.2.1 hvc.2.2.2.2.1 hvc.2.2.2.2.2.1 hvc.2.2.2.2.2.2.1 hvc.2.2.2.2.2.2.2 hnl hLn hmL hrq kv kx
/-- the small heap behind a store, and behind a making -/
theorem mv_set_s {a : Nat} {e : va_E} : (mv_set h a e).2.2 a = some e := if_pos rfl
theorem mv_set_n {a b : Nat} {e : va_E} (hne : b ≠ a) : (mv_set h a e).2.2 b = h.2.2 b := if_neg hne
theorem mv_new_s {n : Nat} {e : va_E} : (mv_new h n e).2.2 h.1 = some e := if_pos rfl
theorem mv_new_n {n b : Nat} {e : va_E} (hne : b ≠ h.1) : (mv_new h n e).2.2 b = h.2.2 b := if_neg hne
end MVH
