theorem xq_code_ok {i pc : Nat} {I : xq_I} (h : xq_code i pc = some I) : i < 311 ∧ xq_chk i pc I = true := sorry
