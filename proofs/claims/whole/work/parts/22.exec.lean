/-! STRETCHES: k steps on, but not past the pcs of 'stop' -/
noncomputable def xq_exec (stop : Nat → Bool) (d i : Nat) (K : xq_KT) : Nat → xq_KT
  | 0, pc, ls, st, X => K pc ls st X
  | k + 1, pc, ls, st, X => match xq_code i pc with
    | none => none
    | some I => xq_step i pc I ls st X (fun pc1 ls1 st1 X1 => cond (stop pc1) (K pc1 ls1 st1 X1) (xq_exec stop d i K k pc1 ls1 st1 X1)) (xq_Call d)
theorem xq_exec_eq (stop : Nat → Bool) (d i : Nat) : ∀ (k pc : Nat) (ls st : List Value) (X : xq_X), xq_exec stop d i (xq_Run d i) k pc ls st X = xq_Run d i pc ls st X
  | 0, _, _, _, _ => rfl
  | k + 1, pc, ls, st, X => by
    rw [xq_Run_eq, xq_exec]
    have e : (fun pc1 ls1 st1 X1 => cond (stop pc1) (xq_Run d i pc1 ls1 st1 X1) (xq_exec stop d i (xq_Run d i) k pc1 ls1 st1 X1)) = xq_Run d i := by
      funext pc1 ls1 st1 X1
      rw [xq_exec_eq stop d i k pc1 ls1 st1 X1]
      cases stop pc1 <;> rfl
    rw [e]
    cases xq_code i pc <;> rfl
