/- jdk/internal/util/Preconditions.checkIndex -/
theorem xg281_0 (d : Nat) (w : List Nat) (S : xr_S)  (a0 : Int32) (a1 : Int32) : xr_Run d 281 0 [xI a0, xI a1, xP 0 5000] [] ([], w) S = (if a0 < (0 : Int32) then none else (if a0 < a1 then (some (.inl (some a0), ([], w), S)) else none)) := by
  exact (xr_exec_eq (fun p => false) d 281 400 0 _ _ _ S).symm
