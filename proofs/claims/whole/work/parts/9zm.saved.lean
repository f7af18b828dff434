/-! A SAVED: its construction, segment by segment -/
theorem xr_putF {b c ci k e : Nat} {u : List (Nat × Nat × Nat)} {w : List Nat} {S : xr_S} {f : xr_N → xr_S → xr_R} (h : (xr_sh b c).1 = 100 + ci) (hci : Nat.blt ci 12 = true) (hk : (xr_sh b c).2.2[k]? = some e) (he : Nat.ble 10 e = true) (hc : Nat.blt (c + (e - 10)) 1000 = true) : xr_put ((b, c, k) :: u, w) S b c ci k 1 (xP b (c + (e - 10))) f = f (u, w) S := by
  unfold xr_put
  rw [h, hci, hk]
  dsimp only
  rw [he, if_pos ⟨rfl, rfl⟩, hc, show Nat.beq (100 + ci) (100 + ci) = true from Nat.beq_refl _]
  rfl
section
variable {d q a k : Nat} {pa : Option Nat} {M : xr_M} {D : xr_D} {w : List Nat} {u : List (Nat × Nat × Nat)}
set_option maxRecDepth 20000 in
theorem sv26_0 : xr_Run d 26 0 [xP (q + 1) 7] [] (u, w) (a, k, (q + 1, 8), pa, M, D) = xr_Run d 26 9 [xP (q + 1) 7] [xP (q + 1) 8, xP (q + 1) 7] (u, w) (a + 1, k + 8, (q + 1, 9), pa, M, D) := (xr_exec_eq (fun p => Nat.beq p 9) d 26 400 0 _ _ _ _).symm
set_option maxRecDepth 20000 in
theorem sv26_9 {S : xr_S} : xr_Run d 26 9 [xP (q + 1) 7] (xP (q + 1) 8 :: xP (q + 1) 7 :: []) ((q + 1, 7, 0) :: u, w) S = xr_Run d 26 12 [xP (q + 1) 7] [] (u, w) S := (xr_Run_eq d 26 9 _ _ _ _).trans (xr_putF (b := q + 1) (c := 7) (ci := 2) (k := 0) (e := 11) rfl rfl rfl rfl rfl)
set_option maxRecDepth 20000 in
theorem sv26_12 : xr_Run d 26 12 [xP (q + 1) 7] [] (u, w) (a, k, (q + 1, 9), pa, M, D) = xr_Run d 26 18 [xP (q + 1) 7] [xP (q + 1) 9, xP (q + 1) 7] (u, w) (a + 1, k + 648, (q + 1, 10), pa, M, D) := (xr_exec_eq (fun p => Nat.beq p 18) d 26 400 12 _ _ _ _).symm
set_option maxRecDepth 20000 in
theorem sv26_18 {S : xr_S} : xr_Run d 26 18 [xP (q + 1) 7] (xP (q + 1) 9 :: xP (q + 1) 7 :: []) ((q + 1, 7, 1) :: u, w) S = xr_Run d 26 21 [xP (q + 1) 7] [] (u, w) S := (xr_Run_eq d 26 18 _ _ _ _).trans (xr_putF (b := q + 1) (c := 7) (ci := 2) (k := 1) (e := 12) rfl rfl rfl rfl rfl)
set_option maxRecDepth 20000 in
theorem sv26_21 : xr_Run d 26 21 [xP (q + 1) 7] [] (u, w) (a, k, (q + 1, 10), pa, M, D) = some (.inl none, (u, w), (a, k, (q + 1, 10), pa, M, D)) := (xr_exec_eq (fun p => false) d 26 400 21 _ _ _ _).symm
theorem sv26 : xr_Call (d + 1) 26 [xP (q + 1) 7] ((q + 1, 7, 0) :: (q + 1, 7, 1) :: u, w) (a, k, (q + 1, 8), pa, M, D) = some (.inl none, (u, w), (a + 1 + 1, k + 8 + 648, (q + 1, 10), pa, M, D)) := by
  refine (sv26_0 (u := (q + 1, 7, 0) :: (q + 1, 7, 1) :: u)).trans ?_
  rw [sv26_9, sv26_12, sv26_18, sv26_21]
set_option maxRecDepth 20000 in
theorem sv4_0 : xr_Run d 4 0 [xP (q + 1) 1] [] (u, w) (a, k, (q + 1, 2), pa, M, D) = xr_Run d 4 14 [xP (q + 1) 1] [xP (q + 1) 2, xP (q + 1) 1] (u, w) (a + 1, k + 8, (q + 1, 3), pa, (xw M (q + 1) 1 0 (nI 0)), D) := (xr_exec_eq (fun p => Nat.beq p 14) d 4 400 0 _ _ _ _).symm
set_option maxRecDepth 20000 in
theorem sv4_14 {S : xr_S} : xr_Run d 4 14 [xP (q + 1) 1] (xP (q + 1) 2 :: xP (q + 1) 1 :: []) ((q + 1, 1, 1) :: u, w) S = xr_Run d 4 17 [xP (q + 1) 1] [] (u, w) S := (xr_Run_eq d 4 14 _ _ _ _).trans (xr_putF (b := q + 1) (c := 1) (ci := 1) (k := 1) (e := 11) rfl rfl rfl rfl rfl)
set_option maxRecDepth 20000 in
theorem sv4_17 : xr_Run d 4 17 [xP (q + 1) 1] [] (u, w) (a, k, (q + 1, 3), pa, M, D) = xr_Run d 4 22 [xP (q + 1) 1] [xP (q + 1) 3, xP (q + 1) 1] (u, w) (a + 1, k + 8, (q + 1, 4), pa, M, D) := (xr_exec_eq (fun p => Nat.beq p 22) d 4 400 17 _ _ _ _).symm
set_option maxRecDepth 20000 in
theorem sv4_22 {S : xr_S} : xr_Run d 4 22 [xP (q + 1) 1] (xP (q + 1) 3 :: xP (q + 1) 1 :: []) ((q + 1, 1, 2) :: u, w) S = xr_Run d 4 25 [xP (q + 1) 1] [] (u, w) S := (xr_Run_eq d 4 22 _ _ _ _).trans (xr_putF (b := q + 1) (c := 1) (ci := 1) (k := 2) (e := 12) rfl rfl rfl rfl rfl)
set_option maxRecDepth 20000 in
theorem sv4_25 : xr_Run d 4 25 [xP (q + 1) 1] [] (u, w) (a, k, (q + 1, 4), pa, M, D) = xr_Run d 4 30 [xP (q + 1) 1] [xP (q + 1) 4, xP (q + 1) 1] (u, w) (a + 1, k + 16, (q + 1, 5), pa, M, D) := (xr_exec_eq (fun p => Nat.beq p 30) d 4 400 25 _ _ _ _).symm
set_option maxRecDepth 20000 in
theorem sv4_30 {S : xr_S} : xr_Run d 4 30 [xP (q + 1) 1] (xP (q + 1) 4 :: xP (q + 1) 1 :: []) ((q + 1, 1, 3) :: u, w) S = xr_Run d 4 33 [xP (q + 1) 1] [] (u, w) S := (xr_Run_eq d 4 30 _ _ _ _).trans (xr_putF (b := q + 1) (c := 1) (ci := 1) (k := 3) (e := 13) rfl rfl rfl rfl rfl)
set_option maxRecDepth 20000 in
theorem sv4_33 : xr_Run d 4 33 [xP (q + 1) 1] [] (u, w) (a, k, (q + 1, 5), pa, M, D) = xr_Run d 4 38 [xP (q + 1) 1] [xP (q + 1) 5, xP (q + 1) 1] (u, w) (a + 1, k + 16, (q + 1, 6), pa, M, D) := (xr_exec_eq (fun p => Nat.beq p 38) d 4 400 33 _ _ _ _).symm
set_option maxRecDepth 20000 in
theorem sv4_38 {S : xr_S} : xr_Run d 4 38 [xP (q + 1) 1] (xP (q + 1) 5 :: xP (q + 1) 1 :: []) ((q + 1, 1, 4) :: u, w) S = xr_Run d 4 41 [xP (q + 1) 1] [] (u, w) S := (xr_Run_eq d 4 38 _ _ _ _).trans (xr_putF (b := q + 1) (c := 1) (ci := 1) (k := 4) (e := 14) rfl rfl rfl rfl rfl)
set_option maxRecDepth 20000 in
theorem sv4_41 : xr_Run d 4 41 [xP (q + 1) 1] [] (u, w) (a, k, (q + 1, 6), pa, M, D) = xr_Run d 4 46 [xP (q + 1) 1] [xP (q + 1) 6, xP (q + 1) 1] (u, w) (a + 1, k + 96, (q + 1, 7), pa, M, D) := (xr_exec_eq (fun p => Nat.beq p 46) d 4 400 41 _ _ _ _).symm
set_option maxRecDepth 20000 in
theorem sv4_46 {S : xr_S} : xr_Run d 4 46 [xP (q + 1) 1] (xP (q + 1) 6 :: xP (q + 1) 1 :: []) ((q + 1, 1, 5) :: u, w) S = xr_Run d 4 49 [xP (q + 1) 1] [] (u, w) S := (xr_Run_eq d 4 46 _ _ _ _).trans (xr_putF (b := q + 1) (c := 1) (ci := 1) (k := 5) (e := 15) rfl rfl rfl rfl rfl)
set_option maxRecDepth 20000 in
theorem sv4_49 : xr_Run d 4 49 [xP (q + 1) 1] [] (u, w) (a, k, (q + 1, 7), pa, M, D) = xr_cC (u, w) 2 (xr_Call d 26 [xP (q + 1) 7] ((q + 1, 7, 0) :: (q + 1, 7, 1) :: u, w) (a + 1, k + 2, (q + 1, 8), pa, M, D)) (fun S1 => xr_Run d 4 57 [xP (q + 1) 1] [xP (q + 1) 7, xP (q + 1) 1] (u, w) S1) := (xr_exec_eq (fun p => Nat.beq p 57) d 4 400 49 _ _ _ _).symm
set_option maxRecDepth 20000 in
theorem sv4_57 {S : xr_S} : xr_Run d 4 57 [xP (q + 1) 1] (xP (q + 1) 7 :: xP (q + 1) 1 :: []) ((q + 1, 1, 6) :: u, w) S = xr_Run d 4 60 [xP (q + 1) 1] [] (u, w) S := (xr_Run_eq d 4 57 _ _ _ _).trans (xr_putF (b := q + 1) (c := 1) (ci := 1) (k := 6) (e := 16) rfl rfl rfl rfl rfl)
set_option maxRecDepth 20000 in
theorem sv4_60 {S : xr_S} : xr_Run d 4 60 [xP (q + 1) 1] [] (u, w) S = some (.inl none, (u, w), S) := (xr_exec_eq (fun p => false) d 4 400 60 _ _ _ _).symm
theorem xr_cC_s (m : xr_N) {ci : Nat} (hc : Nat.beq ci 6 = false) (S : xr_S) (f : xr_S → xr_R) : xr_cC m ci (some (.inl none, m, S)) f = f S := by
  unfold xr_cC
  rw [hc]
  simp
theorem sv4 : xr_Call (d + 2) 4 [xP (q + 1) 1] ((q + 1, 1, 1) :: (q + 1, 1, 2) :: (q + 1, 1, 3) :: (q + 1, 1, 4) :: (q + 1, 1, 5) :: (q + 1, 1, 6) :: u, w) (a, k, (q + 1, 2), pa, M, D) = some (.inl none, (u, w), (a + 1 + 1 + 1 + 1 + 1 + 1 + 1 + 1, k + 8 + 8 + 16 + 16 + 96 + 2 + 8 + 648, (q + 1, 10), pa, (xw M (q + 1) 1 0 (nI 0)), D)) := by
  refine (sv4_0 (d := d + 1) (u := (q + 1, 1, 1) :: (q + 1, 1, 2) :: (q + 1, 1, 3) :: (q + 1, 1, 4) :: (q + 1, 1, 5) :: (q + 1, 1, 6) :: u)).trans ?_
  rw [sv4_14, sv4_17, sv4_22, sv4_25, sv4_30, sv4_33, sv4_38, sv4_41, sv4_46, sv4_49, sv26, xr_cC_s _ rfl, sv4_57, sv4_60]
set_option maxRecDepth 20000 in
theorem sv73N_0 {x : Int32} : xr_Run d 73 0 [xP (q + 1) 0, xP 0 3, xN, xI x] [] ([(q + 1, 0, 0)], w) (a, k, (q + 1, 1), pa, M, D) = xr_cC ([(q + 1, 0, 0)], w) 1 (xr_Call d 4 [xP (q + 1) 1] ([(q + 1, 1, 1), (q + 1, 1, 2), (q + 1, 1, 3), (q + 1, 1, 4), (q + 1, 1, 5), (q + 1, 1, 6), (q + 1, 0, 0)], w) (a + 1, k + 7, (q + 1, 2), pa, M, D)) (fun S1 => xr_Run d 73 12 [xP (q + 1) 0, xP 0 3, xN, xI x] [xP (q + 1) 1, xP (q + 1) 0] ([(q + 1, 0, 0)], w) S1) := (xr_exec_eq (fun p => Nat.beq p 12) d 73 400 0 _ _ _ _).symm
set_option maxRecDepth 20000 in
theorem sv73N_12 {x : Int32} {S : xr_S} : xr_Run d 73 12 [xP (q + 1) 0, xP 0 3, xN, xI x] (xP (q + 1) 1 :: xP (q + 1) 0 :: []) ((q + 1, 0, 0) :: u, w) S = xr_Run d 73 15 [xP (q + 1) 0, xP 0 3, xN, xI x] [] (u, w) S := (xr_Run_eq d 73 12 _ _ _ _).trans (xr_putF (b := q + 1) (c := 0) (ci := 6) (k := 0) (e := 11) rfl rfl rfl rfl rfl)
set_option maxRecDepth 20000 in
theorem sv73N_15 {x : Int32} {S : xr_S} : xr_Run d 73 15 [xP (q + 1) 0, xP 0 3, xN, xI x] [] ([], w) S = xr_cV ([], w) (xr_Call d 6 [xP (q + 1) 1, xP 0 3] ([], w) S) (fun S1 => some (.inl none, ([], w), xs (xr_sd S1 (xr_up (xr_d S1) (q + 1) 0 none)) (xw (xm S1) (q + 1) 0 2 x))) := (xr_exec_eq (fun p => false) d 73 400 15 _ _ _ _).symm
theorem sv73N {x : Int32} : ∃ M', xr_Call (d + 4) 73 [xP (q + 1) 0, xP 0 3, xN, xI x] ([(q + 1, 0, 0)], w) (a, k, (q + 1, 1), pa, M, D) = some (.inl none, ([], w), (a + 9, k + 809, (q + 1, 10), pa, M', xr_up D (q + 1) 0 none)) ∧ xCp M M' 0 3 (q + 1) 1 ∧ M' (q + 1) 0 2 = x ∧ ∀ b e, ¬ (b = q + 1 ∧ e ≤ 9) → M' b e = M b e := by
  obtain ⟨M2, e2, C2, F2⟩ := gc6c (d := d + 1) (w := w) (q := q) (S := (a + 9, k + 809, (q + 1, 10), pa, xw M (q + 1) 1 0 (nI 0), D))
  refine ⟨xw M2 (q + 1) 0 2 x, ?_, ?_, xw_y (by omega), fun b e h => ?_⟩
  · refine (sv73N_0 (d := d + 3)).trans ?_
    rw [show xr_Call (d + 3) 4 [xP (q + 1) 1] _ _ = _ from sv4 (d := d + 1), xr_cC_s _ rfl, sv73N_12, sv73N_15]
    rw [show xr_Call (d + 3) 6 [xP (q + 1) 1, xP 0 3] ([], w) _ = _ from e2, xr_cV_s]
    rfl
  · obtain ⟨q0, q1, q2, q3, q4, q5, q6, q7⟩ := C2
    have e0 : ∀ c, (xw M (q + 1) 1 0 (nI 0)) 0 c = M 0 c := fun c => xw_r (by omega)
    unfold xm at q0 q1 q2 q3 q4 q5 q6 q7
    dsimp only at q0 q1 q2 q3 q4 q5 q6 q7
    rw [e0] at q0
    simp only [e0] at q1 q2 q3 q4 q5 q6 q7
    refine ⟨?_, ?_, ?_, ?_, ?_, ?_, ?_, ?_⟩
    · rw [xw_n (by omega)]; exact q0
    · intro j hj; rw [xw_n (by omega)]; exact q1 j hj
    · intro j hj; rw [xw_n (by omega)]; exact q2 j hj
    · intro j hj; rw [xw_n (by omega)]; exact q3 j hj
    · intro j hj; rw [xw_n (by omega)]; exact q4 j hj
    · intro j hj; rw [xw_n (by omega)]; exact q5 j hj
    · intro j hj; rw [xw_n (by omega)]; exact q6 j hj
    · intro j hj; rw [xw_n (by omega)]; exact q7 j hj
  · rw [xw_r (by omega), F2 b e (by omega)]
    show xw M (q + 1) 1 0 (nI 0) b e = M b e
    rw [xw_r (by omega)]
set_option maxRecDepth 20000 in
theorem sv73S_0 {p : Nat} {x : Int32} : xr_Run d 73 0 [xP (q + 1) 0, xP 0 3, xP (p + 1) 0, xI x] [] ([(q + 1, 0, 0)], w) (a, k, (q + 1, 1), pa, M, D) = xr_cC ([(q + 1, 0, 0)], w) 1 (xr_Call d 4 [xP (q + 1) 1] ([(q + 1, 1, 1), (q + 1, 1, 2), (q + 1, 1, 3), (q + 1, 1, 4), (q + 1, 1, 5), (q + 1, 1, 6), (q + 1, 0, 0)], w) (a + 1, k + 7, (q + 1, 2), pa, M, D)) (fun S1 => xr_Run d 73 12 [xP (q + 1) 0, xP 0 3, xP (p + 1) 0, xI x] [xP (q + 1) 1, xP (q + 1) 0] ([(q + 1, 0, 0)], w) S1) := (xr_exec_eq (fun p => Nat.beq p 12) d 73 400 0 _ _ _ _).symm
set_option maxRecDepth 20000 in
theorem sv73S_12 {p : Nat} {x : Int32} {S : xr_S} : xr_Run d 73 12 [xP (q + 1) 0, xP 0 3, xP (p + 1) 0, xI x] (xP (q + 1) 1 :: xP (q + 1) 0 :: []) ((q + 1, 0, 0) :: u, w) S = xr_Run d 73 15 [xP (q + 1) 0, xP 0 3, xP (p + 1) 0, xI x] [] (u, w) S := (xr_Run_eq d 73 12 _ _ _ _).trans (xr_putF (b := q + 1) (c := 0) (ci := 6) (k := 0) (e := 11) rfl rfl rfl rfl rfl)
set_option maxRecDepth 20000 in
theorem sv73S_15 {p : Nat} {x : Int32} {S : xr_S} : xr_Run d 73 15 [xP (q + 1) 0, xP 0 3, xP (p + 1) 0, xI x] [] ([], w) S = xr_cV ([], w) (xr_Call d 6 [xP (q + 1) 1, xP 0 3] ([], w) S) (fun S1 => some (.inl none, ([], w), xs (xr_sd S1 (xr_up (xr_d S1) (q + 1) 0 (some (p + 1)))) (xw (xm S1) (q + 1) 0 2 x))) := (xr_exec_eq (fun p => false) d 73 400 15 _ _ _ _).symm
theorem sv73S {p : Nat} {x : Int32} : ∃ M', xr_Call (d + 4) 73 [xP (q + 1) 0, xP 0 3, xP (p + 1) 0, xI x] ([(q + 1, 0, 0)], w) (a, k, (q + 1, 1), pa, M, D) = some (.inl none, ([], w), (a + 9, k + 809, (q + 1, 10), pa, M', xr_up D (q + 1) 0 (some (p + 1)))) ∧ xCp M M' 0 3 (q + 1) 1 ∧ M' (q + 1) 0 2 = x ∧ ∀ b e, ¬ (b = q + 1 ∧ e ≤ 9) → M' b e = M b e := by
  obtain ⟨M2, e2, C2, F2⟩ := gc6c (d := d + 1) (w := w) (q := q) (S := (a + 9, k + 809, (q + 1, 10), pa, xw M (q + 1) 1 0 (nI 0), D))
  refine ⟨xw M2 (q + 1) 0 2 x, ?_, ?_, xw_y (by omega), fun b e h => ?_⟩
  · refine (sv73S_0 (d := d + 3)).trans ?_
    rw [show xr_Call (d + 3) 4 [xP (q + 1) 1] _ _ = _ from sv4 (d := d + 1), xr_cC_s _ rfl, sv73S_12, sv73S_15]
    rw [show xr_Call (d + 3) 6 [xP (q + 1) 1, xP 0 3] ([], w) _ = _ from e2, xr_cV_s]
    rfl
  · obtain ⟨q0, q1, q2, q3, q4, q5, q6, q7⟩ := C2
    have e0 : ∀ c, (xw M (q + 1) 1 0 (nI 0)) 0 c = M 0 c := fun c => xw_r (by omega)
    unfold xm at q0 q1 q2 q3 q4 q5 q6 q7
    dsimp only at q0 q1 q2 q3 q4 q5 q6 q7
    rw [e0] at q0
    simp only [e0] at q1 q2 q3 q4 q5 q6 q7
    refine ⟨?_, ?_, ?_, ?_, ?_, ?_, ?_, ?_⟩
    · rw [xw_n (by omega)]; exact q0
    · intro j hj; rw [xw_n (by omega)]; exact q1 j hj
    · intro j hj; rw [xw_n (by omega)]; exact q2 j hj
    · intro j hj; rw [xw_n (by omega)]; exact q3 j hj
    · intro j hj; rw [xw_n (by omega)]; exact q4 j hj
    · intro j hj; rw [xw_n (by omega)]; exact q5 j hj
    · intro j hj; rw [xw_n (by omega)]; exact q6 j hj
    · intro j hj; rw [xw_n (by omega)]; exact q7 j hj
  · rw [xw_r (by omega), F2 b e (by omega)]
    show xw M (q + 1) 1 0 (nI 0) b e = M b e
    rw [xw_r (by omega)]
end
