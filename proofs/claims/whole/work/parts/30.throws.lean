/-! the words of the two throws -/
theorem xq_throw1 : ((xq_atS RX10 363 xq_NS 13 prog_29_method_4_code ["java/lang/RuntimeException", "java/lang/Exception"]).all (fun w => (decide (w ∈ lw_tbl) && goodWord w) || decide (w ∈ xq_xw.drop 2))) = true := by decide +kernel
theorem xq_throw2 : ((xq_atS RX10 370 xq_IA 7 Bundle.six ["java/lang/RuntimeException", "java/lang/Exception"]).all (fun w => (decide (w ∈ lw_tbl) && goodWord w) || decide (w ∈ xq_xw.drop 2))) = true := by decide +kernel
theorem xq_throw3 : ∀ w ∈ Cond.classLink RX10 359 xq_NS :: Cond.initialized xq_NS :: xq_atS RX10 363 xq_NS 13 prog_29_method_4_code ["java/lang/RuntimeException", "java/lang/Exception"], vx_ot w = true := by decide +kernel
theorem xq_throw4 : ∀ w ∈ Cond.classLink RX10 366 xq_IA :: Cond.initialized xq_IA :: xq_atS RX10 370 xq_IA 7 Bundle.six ["java/lang/RuntimeException", "java/lang/Exception"], vx_ot w = true := by decide +kernel
