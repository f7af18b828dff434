/- java/lang/String.isLatin1 -/
set_option maxRecDepth 200000 in
theorem xg277_0 (d : Nat) (w : List Nat) (S : xr_S)  (k : Nat) : xr_Run d 277 0 [xP k 3000] [] ([], w) S = (if (1 : Int32) = (0 : Int32) then (some (.inl (some (0 : Int32)), ([], w), S)) else (if (0 : Int32) = (0 : Int32) then (some (.inl (some (1 : Int32)), ([], w), S)) else (some (.inl (some (0 : Int32)), ([], w), S)))) := by
  exact (xr_exec_eq (fun p => false) d 277 400 0 _ _ _ S).symm
/- java/lang/String.checkIndex -/
set_option maxRecDepth 200000 in
theorem xg278_0 (d : Nat) (w : List Nat) (S : xr_S)  (a0 : Int32) (a1 : Int32) : xr_Run d 278 0 [xI a0, xI a1] [] ([], w) S = (xr_cI ([], w) (xr_Call d 281 [xI a0, xI a1, xP 0 5000] ([], w) S) (fun x2 S1 => (some (.inl none, ([], w), S1)))) := by
  exact (xr_exec_eq (fun p => false) d 278 400 0 _ _ _ S).symm
/- java/lang/StringLatin1.charAt -/
set_option maxRecDepth 200000 in
theorem xg279_0 (d : Nat) (w : List Nat) (S : xr_S)  (k : Nat) (a1 : Int32) : xr_Run d 279 0 [xP k 4000, xI a1] [] ([], w) S = (xr_cV ([], w) (xr_Call d 278 [xI a1, xI (Int32.ofNat (xr_by k).length)] ([], w) S) (fun S1 => (cond (xr_in a1 (xr_by k).length) (cond (xr_ok 3 ((((Int32.ofNat ((xr_by k).getD (xk a1) 0)) &&& (255 : Int32)).toUInt32 % 65536).toInt32)) (some (.inl (some ((((Int32.ofNat ((xr_by k).getD (xk a1) 0)) &&& (255 : Int32)).toUInt32 % 65536).toInt32)), ([], w), S1)) none) none))) := by
  exact (xr_exec_eq (fun p => false) d 279 400 0 _ _ _ S).symm
/- java/util/Arrays.fill -/
set_option maxRecDepth 200000 in
theorem xg28051_0 (d : Nat) (w : List Nat) (S : xr_S)  (a1 : Int32) : xr_Run d 280 0 [xP 0 51, xI a1, xU, xU] [] ([], w) S = (xr_Run d 280 5 [xP 0 51, xI a1, xI (0 : Int32), xI (Int32.ofNat 48)] [] ([], w) S) := by
  exact (xr_exec_eq (fun p => Nat.beq p 5) d 280 400 0 _ _ _ S).symm
set_option maxRecDepth 200000 in
theorem xg28051_5 (d : Nat) (w : List Nat) (S : xr_S)  (v1 : Int32) (v2 : Int32) (v3 : Int32) : xr_Run d 280 5 [xP 0 51, xI v1, xI v2, xI v3] [] ([], w) S = (if v2 < v3 then (cond (xr_in v2 48) (xr_Run d 280 5 [xP 0 51, xI v1, xI (v2 + (1 : Int32)), xI v3] [] ([], w) (xs S (xw (xm S) 0 51 (xk v2) v1))) none) else (some (.inl none, ([], w), S))) := by
  exact (xr_exec_eq (fun p => Nat.beq p 5) d 280 400 5 _ _ _ S).symm
/- java/util/Arrays.fill -/
set_option maxRecDepth 200000 in
theorem xg28052_0 (d : Nat) (w : List Nat) (S : xr_S)  (a1 : Int32) : xr_Run d 280 0 [xP 0 52, xI a1, xU, xU] [] ([], w) S = (xr_Run d 280 5 [xP 0 52, xI a1, xI (0 : Int32), xI (Int32.ofNat 8)] [] ([], w) S) := by
  exact (xr_exec_eq (fun p => Nat.beq p 5) d 280 400 0 _ _ _ S).symm
set_option maxRecDepth 200000 in
theorem xg28052_5 (d : Nat) (w : List Nat) (S : xr_S)  (v1 : Int32) (v2 : Int32) (v3 : Int32) : xr_Run d 280 5 [xP 0 52, xI v1, xI v2, xI v3] [] ([], w) S = (if v2 < v3 then (cond (xr_in v2 8) (xr_Run d 280 5 [xP 0 52, xI v1, xI (v2 + (1 : Int32)), xI v3] [] ([], w) (xs S (xw (xm S) 0 52 (xk v2) v1))) none) else (some (.inl none, ([], w), S))) := by
  exact (xr_exec_eq (fun p => Nat.beq p 5) d 280 400 5 _ _ _ S).symm
/- java/util/Arrays.fill -/
set_option maxRecDepth 200000 in
theorem xg2805_0 (d : Nat) (w : List Nat) (S : xr_S)  (a1 : Int32) : xr_Run d 280 0 [xP 0 5, xI a1, xU, xU] [] ([], w) S = (xr_Run d 280 5 [xP 0 5, xI a1, xI (0 : Int32), xI (Int32.ofNat 8)] [] ([], w) S) := by
  exact (xr_exec_eq (fun p => Nat.beq p 5) d 280 400 0 _ _ _ S).symm
set_option maxRecDepth 200000 in
theorem xg2805_5 (d : Nat) (w : List Nat) (S : xr_S)  (v1 : Int32) (v2 : Int32) (v3 : Int32) : xr_Run d 280 5 [xP 0 5, xI v1, xI v2, xI v3] [] ([], w) S = (if v2 < v3 then (cond (xr_in v2 8) (xr_Run d 280 5 [xP 0 5, xI v1, xI (v2 + (1 : Int32)), xI v3] [] ([], w) (xs S (xw (xm S) 0 5 (xk v2) v1))) none) else (some (.inl none, ([], w), S))) := by
  exact (xr_exec_eq (fun p => Nat.beq p 5) d 280 400 5 _ _ _ S).symm
/- java/util/Arrays.fill -/
set_option maxRecDepth 200000 in
theorem xg2807_0 (d : Nat) (w : List Nat) (S : xr_S)  (a1 : Int32) : xr_Run d 280 0 [xP 0 7, xI a1, xU, xU] [] ([], w) S = (xr_Run d 280 5 [xP 0 7, xI a1, xI (0 : Int32), xI (Int32.ofNat 16)] [] ([], w) S) := by
  exact (xr_exec_eq (fun p => Nat.beq p 5) d 280 400 0 _ _ _ S).symm
set_option maxRecDepth 200000 in
theorem xg2807_5 (d : Nat) (w : List Nat) (S : xr_S)  (v1 : Int32) (v2 : Int32) (v3 : Int32) : xr_Run d 280 5 [xP 0 7, xI v1, xI v2, xI v3] [] ([], w) S = (if v2 < v3 then (cond (xr_in v2 16) (xr_Run d 280 5 [xP 0 7, xI v1, xI (v2 + (1 : Int32)), xI v3] [] ([], w) (xs S (xw (xm S) 0 7 (xk v2) v1))) none) else (some (.inl none, ([], w), S))) := by
  exact (xr_exec_eq (fun p => Nat.beq p 5) d 280 400 5 _ _ _ S).symm
/- java/util/Arrays.fill -/
set_option maxRecDepth 200000 in
theorem xg28064_0 (d : Nat) (w : List Nat) (S : xr_S)  (a1 : Int32) : xr_Run d 280 0 [xP 0 64, xI a1, xU, xU] [] ([], w) S = (xr_Run d 280 5 [xP 0 64, xI a1, xI (0 : Int32), xI (Int32.ofNat 6)] [] ([], w) S) := by
  exact (xr_exec_eq (fun p => Nat.beq p 5) d 280 400 0 _ _ _ S).symm
set_option maxRecDepth 200000 in
theorem xg28064_5 (d : Nat) (w : List Nat) (S : xr_S)  (v1 : Int32) (v2 : Int32) (v3 : Int32) : xr_Run d 280 5 [xP 0 64, xI v1, xI v2, xI v3] [] ([], w) S = (if v2 < v3 then (cond (xr_in v2 6) (xr_Run d 280 5 [xP 0 64, xI v1, xI (v2 + (1 : Int32)), xI v3] [] ([], w) (xs S (xw (xm S) 0 64 (xk v2) v1))) none) else (some (.inl none, ([], w), S))) := by
  exact (xr_exec_eq (fun p => Nat.beq p 5) d 280 400 5 _ _ _ S).symm
/- java/util/Arrays.fill -/
set_option maxRecDepth 200000 in
theorem xg28067_0 (d : Nat) (w : List Nat) (S : xr_S)  (a1 : Int32) : xr_Run d 280 0 [xP 0 67, xI a1, xU, xU] [] ([], w) S = (xr_Run d 280 5 [xP 0 67, xI a1, xI (0 : Int32), xI (Int32.ofNat 6)] [] ([], w) S) := by
  exact (xr_exec_eq (fun p => Nat.beq p 5) d 280 400 0 _ _ _ S).symm
set_option maxRecDepth 200000 in
theorem xg28067_5 (d : Nat) (w : List Nat) (S : xr_S)  (v1 : Int32) (v2 : Int32) (v3 : Int32) : xr_Run d 280 5 [xP 0 67, xI v1, xI v2, xI v3] [] ([], w) S = (if v2 < v3 then (cond (xr_in v2 6) (xr_Run d 280 5 [xP 0 67, xI v1, xI (v2 + (1 : Int32)), xI v3] [] ([], w) (xs S (xw (xm S) 0 67 (xk v2) v1))) none) else (some (.inl none, ([], w), S))) := by
  exact (xr_exec_eq (fun p => Nat.beq p 5) d 280 400 5 _ _ _ S).symm
/- java/util/Arrays.fill -/
set_option maxRecDepth 200000 in
theorem xg28065_0 (d : Nat) (w : List Nat) (S : xr_S)  (a1 : Int32) : xr_Run d 280 0 [xP 0 65, xI a1, xU, xU] [] ([], w) S = (xr_Run d 280 5 [xP 0 65, xI a1, xI (0 : Int32), xI (Int32.ofNat 11)] [] ([], w) S) := by
  exact (xr_exec_eq (fun p => Nat.beq p 5) d 280 400 0 _ _ _ S).symm
set_option maxRecDepth 200000 in
theorem xg28065_5 (d : Nat) (w : List Nat) (S : xr_S)  (v1 : Int32) (v2 : Int32) (v3 : Int32) : xr_Run d 280 5 [xP 0 65, xI v1, xI v2, xI v3] [] ([], w) S = (if v2 < v3 then (cond (xr_in v2 11) (xr_Run d 280 5 [xP 0 65, xI v1, xI (v2 + (1 : Int32)), xI v3] [] ([], w) (xs S (xw (xm S) 0 65 (xk v2) v1))) none) else (some (.inl none, ([], w), S))) := by
  exact (xr_exec_eq (fun p => Nat.beq p 5) d 280 400 5 _ _ _ S).symm
/- jdk/internal/util/Preconditions.checkIndex -/
set_option maxRecDepth 200000 in
theorem xg281_0 (d : Nat) (w : List Nat) (S : xr_S)  (a0 : Int32) (a1 : Int32) : xr_Run d 281 0 [xI a0, xI a1, xP 0 5000] [] ([], w) S = (if a0 < (0 : Int32) then none else (if a0 < a1 then (some (.inl (some a0), ([], w), S)) else none)) := by
  exact (xr_exec_eq (fun p => false) d 281 400 0 _ _ _ S).symm
