def mv_exn : List String := ["java/lang/RuntimeException", "java/lang/Exception"]
def mv_gw (w : Cond) : Bool := match w with
  | .castable _ _ => true
  | .declares _ => true
  | .methodLinkNest _ _ _ _ => true
  | w => goodWord w
theorem ini_IllegalArgumentException : Cond.initialized "java/lang/IllegalArgumentException" ∈ lw_tbl := mv_at 23 (by decide +kernel)
theorem ini_IllegalStateException : Cond.initialized "java/lang/IllegalStateException" ∈ lw_tbl := mv_at 30 (by decide +kernel)
theorem ini_UnsupportedOperationException : Cond.initialized "java/lang/UnsupportedOperationException" ∈ lw_tbl := mv_at 31 (by decide +kernel)
theorem tx_RX0_38 : ∀ w ∈ vx_atS RX0 38 "java/lang/IllegalArgumentException" mv_exn, w ∈ lw_tbl ∧ mv_gw w = true := by decide +kernel
theorem tx_RX12_85 : ∀ w ∈ vx_atS RX12 85 "java/lang/IllegalArgumentException" mv_exn, w ∈ lw_tbl ∧ mv_gw w = true := by decide +kernel
theorem tx_RX12_108 : ∀ w ∈ vx_atS RX12 108 "java/lang/IllegalStateException" mv_exn, w ∈ lw_tbl ∧ mv_gw w = true := by decide +kernel
theorem tx_RX3_34 : ∀ w ∈ vx_atS RX3 34 "java/lang/UnsupportedOperationException" mv_exn, w ∈ lw_tbl ∧ mv_gw w = true := by decide +kernel
theorem tx_RX6_23 : ∀ w ∈ vx_atS RX6 23 "java/lang/UnsupportedOperationException" mv_exn, w ∈ lw_tbl ∧ mv_gw w = true := by decide +kernel
