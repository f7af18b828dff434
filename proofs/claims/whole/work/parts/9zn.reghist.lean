/-! REGIONS: work, undo, image, restore, worksLeft -/
section
variable {d q a k p r : Nat} {nx : xr_A} {pa : Option Nat} {M : xr_M} {D : xr_D} {u : List (Nat × Nat × Nat)} {S : xr_S} {v1 : Int32}
set_option maxRecDepth 20000 in
theorem xv142N : xr_Run d 142 0 [xP 0 0] [] (u, [35, 44, 53, 58, 63, 66]) (a, k, nx, none, M, D) = some (.inl (some (nI 0)), (u, [35, 44, 53, 58, 63, 66]), (a, k, nx, none, M, D)) := (xr_exec_eq (fun p => false) d 142 400 0 _ _ _ _).symm
set_option maxRecDepth 20000 in
theorem xv142S : xr_Run d 142 0 [xP 0 0] [] (u, [35, 44, 53, 58, 63, 66]) (a, k, nx, some (p + 1), M, D) = some (.inl (some (M (p + 1) 0 2)), (u, [35, 44, 53, 58, 63, 66]), (a, k, nx, some (p + 1), M, D)) := (xr_exec_eq (fun p => false) d 142 400 0 _ _ _ _).symm
set_option maxRecDepth 20000 in
theorem xv106_0N : xr_Run d 106 0 [xP 0 0] [] xMd (a, k, nx, none, M, D) = some (.inl (some (-1)), xMd, (a, k, nx, none, M, D)) := (xr_exec_eq (fun p => false) d 106 400 0 _ _ _ _).symm
set_option maxRecDepth 20000 in
theorem xv106_0S : xr_Run d 106 0 [xP 0 0] [] xMd (a, k, nx, some (p + 1), M, D) = xr_cV xMd (xr_Call d 6 [xP 0 3, xP (p + 1) 1] xMd (a, k, nx, some (p + 1), M, D)) (fun S1 => xr_Run d 106 23 [xP 0 0] [] xMd S1) := (xr_exec_eq (fun p => Nat.beq p 23) d 106 400 0 _ _ _ _).symm
set_option maxRecDepth 20000 in
theorem xv106_23 : xr_Run d 106 23 [xP 0 0] [] xMd (a, k, nx, some (p + 1), M, D) = (match D (p + 1) 0 with | some q => xr_Run d 106 31 [xP 0 0] [xP q 0, xP 0 0] xMd (a, k, nx, some (p + 1), M, D) | none => xr_Run d 106 31 [xP 0 0] [xN, xP 0 0] xMd (a, k, nx, some (p + 1), M, D)) := (xr_exec_eq (fun p => Nat.beq p 31) d 106 400 23 _ _ _ _).symm
set_option maxRecDepth 20000 in
theorem xv106_31N : xr_Run d 106 31 [xP 0 0] [xN, xP 0 0] xMd S = xr_cI xMd (xr_Call d 142 [xP 0 0] xMd (xs (xr_sp S none) (xw (xm S) 0 0 16 (nI 0)))) (fun x S1 => some (.inl (some x), xMd, S1)) := (xr_exec_eq (fun p => false) d 106 400 31 _ _ _ _).symm
set_option maxRecDepth 20000 in
theorem xv106_31S : xr_Run d 106 31 [xP 0 0] [xP (r + 1) 0, xP 0 0] xMd S = xr_cI xMd (xr_Call d 142 [xP 0 0] xMd (xs (xr_sp S (some (r + 1))) (xw (xm S) 0 0 16 (nI 0)))) (fun x S1 => some (.inl (some x), xMd, S1)) := (xr_exec_eq (fun p => false) d 106 400 31 _ _ _ _).symm
set_option maxRecDepth 20000 in
theorem xv136_0 : xr_Run d 136 0 [xP 0 0] [] xMd S = if xm S 0 0 14 < nI 0 then some (.inl (some (-1)), xMd, S) else if xm S 0 0 14 < nI 3 then xr_Run d 136 21 [xP 0 0] [] xMd S else some (.inl (some (-1)), xMd, S) := (xr_exec_eq (fun p => Nat.beq p 21) d 136 400 0 _ _ _ _).symm
set_option maxRecDepth 20000 in
theorem xv136_21N : xr_Run d 136 21 [xP 0 0] [] xMd (a, k, (q + 1, 0), none, M, D) = xr_cI ([(q + 1, 0, 0)], [35, 44, 53, 58, 63, 66]) (xr_Call d 142 [xP 0 0] ([(q + 1, 0, 0)], [35, 44, 53, 58, 63, 66]) (a + 1, k + 3, (q + 1, 1), none, M, D)) (fun x S1 => xr_cC xMd 6 (xr_Call d 73 [xP (q + 1) 0, xP 0 3, xN, xI x] ([(q + 1, 0, 0)], [35, 44, 53, 58, 63, 66]) S1) (fun S2 => xr_Run d 136 48 [xP 0 0] [xP (q + 1) 0, xI (M 0 0 14), xP 0 34] xMd S2)) := (xr_exec_eq (fun p => Nat.beq p 48) d 136 400 21 _ _ _ _).symm
set_option maxRecDepth 20000 in
theorem xv103_99N : xr_Run d 103 99 [xP 0 0, xI v1] [] xMd (a, k, (q + 1, 0), none, M, D) = xr_cI ([(q + 1, 0, 0)], [35, 44, 53, 58, 63, 66]) (xr_Call d 142 [xP 0 0] ([(q + 1, 0, 0)], [35, 44, 53, 58, 63, 66]) (a + 1, k + 3, (q + 1, 1), none, M, D)) (fun x S1 => xr_cC xMd 6 (xr_Call d 73 [xP (q + 1) 0, xP 0 3, xN, xI (x + nI 1)] ([(q + 1, 0, 0)], [35, 44, 53, 58, 63, 66]) S1) (fun S2 => xr_Run d 103 121 [xP 0 0, xI v1] [xP (q + 1) 0, xP 0 0] xMd S2)) := (xr_exec_eq (fun p => Nat.beq p 121) d 103 400 99 _ _ _ _).symm
set_option maxRecDepth 20000 in
theorem xv136_21S : xr_Run d 136 21 [xP 0 0] [] xMd (a, k, (q + 1, 0), some (p + 1), M, D) = xr_cI ([(q + 1, 0, 0)], [35, 44, 53, 58, 63, 66]) (xr_Call d 142 [xP 0 0] ([(q + 1, 0, 0)], [35, 44, 53, 58, 63, 66]) (a + 1, k + 3, (q + 1, 1), some (p + 1), M, D)) (fun x S1 => xr_cC xMd 6 (xr_Call d 73 [xP (q + 1) 0, xP 0 3, xP (p + 1) 0, xI x] ([(q + 1, 0, 0)], [35, 44, 53, 58, 63, 66]) S1) (fun S2 => xr_Run d 136 48 [xP 0 0] [xP (q + 1) 0, xI (M 0 0 14), xP 0 34] xMd S2)) := (xr_exec_eq (fun p => Nat.beq p 48) d 136 400 21 _ _ _ _).symm
set_option maxRecDepth 20000 in
theorem xv103_99S : xr_Run d 103 99 [xP 0 0, xI v1] [] xMd (a, k, (q + 1, 0), some (p + 1), M, D) = xr_cI ([(q + 1, 0, 0)], [35, 44, 53, 58, 63, 66]) (xr_Call d 142 [xP 0 0] ([(q + 1, 0, 0)], [35, 44, 53, 58, 63, 66]) (a + 1, k + 3, (q + 1, 1), some (p + 1), M, D)) (fun x S1 => xr_cC xMd 6 (xr_Call d 73 [xP (q + 1) 0, xP 0 3, xP (p + 1) 0, xI (x + nI 1)] ([(q + 1, 0, 0)], [35, 44, 53, 58, 63, 66]) S1) (fun S2 => xr_Run d 103 121 [xP 0 0, xI v1] [xP (q + 1) 0, xP 0 0] xMd S2)) := (xr_exec_eq (fun p => Nat.beq p 121) d 103 400 99 _ _ _ _).symm
set_option maxRecDepth 20000 in
theorem xv136_48 : xr_Run d 136 48 [xP 0 0] [xP (q + 1) 0, xI v1, xP 0 34] xMd S = cond (xr_in v1 3) (some (.inl (some (xw (xm S) 0 0 14 (xm S 0 0 14 + nI 1) 0 0 14)), xMd, xs (xr_sd S (xr_up (xr_d S) 0 (xk v1) (some (q + 1)))) (xw (xm S) 0 0 14 (xm S 0 0 14 + nI 1)))) none := (xr_exec_eq (fun p => false) d 136 400 48 _ _ _ _).symm
set_option maxRecDepth 20000 in
theorem xv137_0 : xr_Run d 137 0 [xP 0 0, xU] [] xMd S = if nI 0 < xm S 0 0 14 then (if nI 3 < xm S 0 0 14 then some (.inl (some (-1)), xMd, S) else xr_Run d 137 21 [xP 0 0, xU] [] xMd S) else some (.inl (some (-1)), xMd, S) := (xr_exec_eq (fun p => Nat.beq p 21) d 137 400 0 _ _ _ _).symm
set_option maxRecDepth 20000 in
theorem xv137_21 : xr_Run d 137 21 [xP 0 0, xU] [] xMd S = cond (xr_in (xm S 0 0 14 - nI 1) 3) (match xr_d S 0 (xk (xm S 0 0 14 - nI 1)) with | some q => xr_Run d 137 32 [xP 0 0, xU] [xP q 0] xMd S | none => xr_Run d 137 32 [xP 0 0, xU] [xN] xMd S) none := (xr_exec_eq (fun p => Nat.beq p 32) d 137 400 21 _ _ _ _).symm
set_option maxRecDepth 20000 in
theorem xv137_32 : xr_Run d 137 32 [xP 0 0, xU] [xP (p + 1) 0] xMd S = xr_cV xMd (xr_Call d 6 [xP 0 3, xP (p + 1) 1] xMd S) (fun S1 => xr_Run d 137 50 [xP 0 0, xP (p + 1) 0] [] xMd S1) := (xr_exec_eq (fun p => Nat.beq p 50) d 137 400 32 _ _ _ _).symm
set_option maxRecDepth 20000 in
theorem xv137_50 : xr_Run d 137 50 [xP 0 0, xP (p + 1) 0] [] xMd S = (match xr_d S (p + 1) 0 with | some q => xr_Run d 137 55 [xP 0 0, xP (p + 1) 0] [xP q 0, xP 0 0] xMd S | none => xr_Run d 137 55 [xP 0 0, xP (p + 1) 0] [xN, xP 0 0] xMd S) := (xr_exec_eq (fun p => Nat.beq p 55) d 137 400 50 _ _ _ _).symm
set_option maxRecDepth 20000 in
theorem xv137_55N : xr_Run d 137 55 [xP 0 0, xP (p + 1) 0] [xN, xP 0 0] xMd S = cond (xr_in ((xw (xm S) 0 0 14 (xm S 0 0 14 - nI 1)) 0 0 14) 3) (some (.inl (some (xw (xw (xm S) 0 0 14 (xm S 0 0 14 - nI 1)) 0 0 16 (nI 0) 0 0 14)), xMd, xs (xr_sd (xr_sp S none) (xr_up (xr_d S) 0 (xk ((xw (xm S) 0 0 14 (xm S 0 0 14 - nI 1)) 0 0 14)) none)) (xw (xw (xm S) 0 0 14 (xm S 0 0 14 - nI 1)) 0 0 16 (nI 0)))) none := (xr_exec_eq (fun p => false) d 137 400 55 _ _ _ _).symm
set_option maxRecDepth 20000 in
theorem xv137_55S : xr_Run d 137 55 [xP 0 0, xP (p + 1) 0] [xP (r + 1) 0, xP 0 0] xMd S = cond (xr_in ((xw (xm S) 0 0 14 (xm S 0 0 14 - nI 1)) 0 0 14) 3) (some (.inl (some (xw (xw (xm S) 0 0 14 (xm S 0 0 14 - nI 1)) 0 0 16 (nI 0) 0 0 14)), xMd, xs (xr_sd (xr_sp S (some (r + 1))) (xr_up (xr_d S) 0 (xk ((xw (xm S) 0 0 14 (xm S 0 0 14 - nI 1)) 0 0 14)) none)) (xw (xw (xm S) 0 0 14 (xm S 0 0 14 - nI 1)) 0 0 16 (nI 0)))) none := (xr_exec_eq (fun p => false) d 137 400 55 _ _ _ _).symm
set_option maxRecDepth 20000 in
theorem xv103_0 : xr_Run d 103 0 [xP 0 0, xI v1] [] xMd S = xr_cV xMd (xr_Call d 141 [xP 0 0, xI v1, xI (nI 0), xI (if xm S 0 1 1 < nI 150 then xm S 0 1 1 else nI 150)] xMd S) (fun S1 => xr_cI xMd (xr_Call d 142 [xP 0 0] xMd S1) (fun x S2 => if x < nI 16 then xr_Run d 103 44 [xP 0 0, xI v1] [] xMd S2 else xr_cV xMd (xr_Call d 81 [xP 0 1, xI (nI 0)] xMd S2) (fun S3 => some (.inl (some (-20)), xMd, xs S3 (xw (xm S3) 0 0 15 (-1 : Int32)))))) := (xr_exec_eq (fun p => Nat.beq p 44) d 103 400 0 _ _ _ _).symm
set_option maxRecDepth 20000 in
theorem xv103_44 : xr_Run d 103 44 [xP 0 0, xI v1] [] xMd S = xr_cV xMd (xr_Call d 81 [xP 0 1, xI v1] xMd S) (fun S1 => xr_cV xMd (xr_Call d 75 [xP 0 21, xP 0 1, xP 0 35] xMd S1) (fun S2 => xr_cI xMd (xr_Call d 82 [xP 0 1] xMd (xs S2 (xw (xm S2) 0 0 15 (xm S2 0 1 6)))) (fun x S3 => if x = nI 0 then some (.inl (some (xm S3 0 1 5 - nI 10)), xMd, S3) else xr_Run d 103 99 [xP 0 0, xI v1] [] xMd S3))) := (xr_exec_eq (fun p => Nat.beq p 99) d 103 400 44 _ _ _ _).symm
set_option maxRecDepth 20000 in
theorem xv103_121 : xr_Run d 103 121 [xP 0 0, xI v1] [xP (q + 1) 0, xP 0 0] xMd S = xr_cV xMd (xr_Call d 145 [xP 0 0, xI (nI 0), xI ((xw (xw (xw (xm S) 0 21 6 (nI 0)) 0 21 7 (nI 0)) 0 21 8 (nI 0)) 0 21 5), xI (nI 0)] xMd (xs (xr_sp S (some (q + 1))) (xw (xw (xw (xm S) 0 21 6 (nI 0)) 0 21 7 (nI 0)) 0 21 8 (nI 0)))) (fun S1 => some (.inl (some (xw (xm S1) 0 0 16 (xm S1 0 21 8) 0 21 7)), xMd, xs S1 (xw (xm S1) 0 0 16 (xm S1 0 21 8)))) := (xr_exec_eq (fun p => false) d 103 400 121 _ _ _ _).symm
end
