/-! COPIES of rows -/
section
variable {d : Nat} {w : List Nat} {S : xr_S}
theorem gm176a {n : Nat} (hn : n ≤ 8) : ∃ M, xr_Call (d + 1) 176 [xP 0 78, xP 0 79, xI (nI n)] ([], w) S = some (.inl none, ([], w), xs S M) ∧ (∀ k j, k < n → j < 5 → M k 1079 j = xm S k 1078 j) ∧ ∀ b e, ¬ e = 1079 → M b e = xm S b e := by
  have inn : ∀ r, r < n → ∀ (M0 : xr_M) i, i ≤ 5 → ∃ M, xr_Run d 176 10 [xP 0 78, xP 0 79, xI (nI n), xI (nI r), xI (nI 0)] [] ([], w) (xs S M0) = xr_Run d 176 10 [xP 0 78, xP 0 79, xI (nI n), xI (nI r), xI (nI i)] [] ([], w) (xs S M) ∧ (∀ j, j < i → M r 1079 j = M0 r 1078 j) ∧ ∀ b e, ¬ (b = r ∧ e = 1079) → M b e = M0 b e := by
    intro r hr M0 i
    induction i with
    | zero => intro _; exact ⟨M0, rfl, fun j hj => by omega, fun _ _ _ => rfl⟩
    | succ i ih =>
      intro hi
      obtain ⟨M, e1, e2, F⟩ := ih (by omega)
      refine ⟨xw M r 1079 i (M0 r 1078 i), ?_, fun j hj => ?_, fun b e h => ?_⟩
      · rw [e1]
        refine (xg176a_10 _ _ _ _ _ _).trans ?_
        have h9 : M r 1078 i = M0 r 1078 i := by rw [F r 1078 (by omega)]
        simp (disch := omega) only [xi_t, xn_k, xn_lt, xn_eq, xn_mul, xn_add, xn_sub, xn_dec, xn_m1, xn_1m, if_pos, if_neg, if_true, if_false, cond_true, cond_false, true_and, and_true, false_and, and_false, xr_cI_s, xr_cV_s, xr_cI_e, xr_cV_e, xm_xs, xs_xs, h9]
      · by_cases q : j = i
        · subst q; rw [xw_y (by omega)]
        · rw [xw_n (by omega)]; exact e2 j (by omega)
      · rw [xw_r (by omega)]; exact F b e h
  have out : ∀ r, r ≤ n → ∃ M v, xr_Run d 176 2 [xP 0 78, xP 0 79, xI (nI n), xI (nI 0), xU] [] ([], w) S = xr_Run d 176 2 [xP 0 78, xP 0 79, xI (nI n), xI (nI r), v] [] ([], w) (xs S M) ∧ (∀ k j, k < r → j < 5 → M k 1079 j = xm S k 1078 j) ∧ ∀ b e, ¬ e = 1079 → M b e = xm S b e := by
    intro r
    induction r with
    | zero => intro _; exact ⟨xm S, xU, by rw [xs_xm], fun k j hk => by omega, fun _ _ _ => rfl⟩
    | succ r ih =>
      intro hr
      obtain ⟨M, v, e1, e2, F⟩ := ih (by omega)
      obtain ⟨M2, i1, i2, F2⟩ := inn r (by omega) M 5 (Nat.le_refl _)
      refine ⟨M2, xI (nI 5), ?_, fun k j hk hj => ?_, fun b e h => ?_⟩
      · rw [e1]
        refine (xg176a_2 _ _ _ _ _ _).trans ?_
        rw [if_pos (by rw [xn_lt (by omega) (by omega)]; omega), i1]
        refine (xg176a_10 _ _ _ _ _ _).trans ?_
        simp (disch := omega) only [xi_t, xn_k, xn_lt, xn_eq, xn_mul, xn_add, xn_sub, xn_dec, xn_m1, xn_1m, if_pos, if_neg, if_true, if_false, cond_true, cond_false, true_and, and_true, false_and, and_false, xr_cI_s, xr_cV_s, xr_cI_e, xr_cV_e, xm_xs, xs_xs]
      · by_cases q : k = r
        · subst q; rw [i2 j hj, F _ _ (by omega)]
        · rw [F2 k 1079 (by omega)]; exact e2 k j (by omega) hj
      · rw [F2 b e (by omega)]; exact F b e h
  obtain ⟨M, v, e1, e2, F⟩ := out n (Nat.le_refl _)
  refine ⟨M, ?_, e2, F⟩
  rw [xe176a, e1]
  refine (xg176a_2 _ _ _ _ _ _).trans ?_
  rw [if_neg (by rw [xn_lt (by omega) (by omega)]; omega)]
theorem gm176b {n : Nat} (hn : n ≤ 8) : ∃ M, xr_Call (d + 1) 176 [xP 0 80, xP 0 81, xI (nI n)] ([], w) S = some (.inl none, ([], w), xs S M) ∧ (∀ k j, k < n → j < 6 → M k 1081 j = xm S k 1080 j) ∧ ∀ b e, ¬ e = 1081 → M b e = xm S b e := by
  have inn : ∀ r, r < n → ∀ (M0 : xr_M) i, i ≤ 6 → ∃ M, xr_Run d 176 10 [xP 0 80, xP 0 81, xI (nI n), xI (nI r), xI (nI 0)] [] ([], w) (xs S M0) = xr_Run d 176 10 [xP 0 80, xP 0 81, xI (nI n), xI (nI r), xI (nI i)] [] ([], w) (xs S M) ∧ (∀ j, j < i → M r 1081 j = M0 r 1080 j) ∧ ∀ b e, ¬ (b = r ∧ e = 1081) → M b e = M0 b e := by
    intro r hr M0 i
    induction i with
    | zero => intro _; exact ⟨M0, rfl, fun j hj => by omega, fun _ _ _ => rfl⟩
    | succ i ih =>
      intro hi
      obtain ⟨M, e1, e2, F⟩ := ih (by omega)
      refine ⟨xw M r 1081 i (M0 r 1080 i), ?_, fun j hj => ?_, fun b e h => ?_⟩
      · rw [e1]
        refine (xg176b_10 _ _ _ _ _ _).trans ?_
        have h9 : M r 1080 i = M0 r 1080 i := by rw [F r 1080 (by omega)]
        simp (disch := omega) only [xi_t, xn_k, xn_lt, xn_eq, xn_mul, xn_add, xn_sub, xn_dec, xn_m1, xn_1m, if_pos, if_neg, if_true, if_false, cond_true, cond_false, true_and, and_true, false_and, and_false, xr_cI_s, xr_cV_s, xr_cI_e, xr_cV_e, xm_xs, xs_xs, h9]
      · by_cases q : j = i
        · subst q; rw [xw_y (by omega)]
        · rw [xw_n (by omega)]; exact e2 j (by omega)
      · rw [xw_r (by omega)]; exact F b e h
  have out : ∀ r, r ≤ n → ∃ M v, xr_Run d 176 2 [xP 0 80, xP 0 81, xI (nI n), xI (nI 0), xU] [] ([], w) S = xr_Run d 176 2 [xP 0 80, xP 0 81, xI (nI n), xI (nI r), v] [] ([], w) (xs S M) ∧ (∀ k j, k < r → j < 6 → M k 1081 j = xm S k 1080 j) ∧ ∀ b e, ¬ e = 1081 → M b e = xm S b e := by
    intro r
    induction r with
    | zero => intro _; exact ⟨xm S, xU, by rw [xs_xm], fun k j hk => by omega, fun _ _ _ => rfl⟩
    | succ r ih =>
      intro hr
      obtain ⟨M, v, e1, e2, F⟩ := ih (by omega)
      obtain ⟨M2, i1, i2, F2⟩ := inn r (by omega) M 6 (Nat.le_refl _)
      refine ⟨M2, xI (nI 6), ?_, fun k j hk hj => ?_, fun b e h => ?_⟩
      · rw [e1]
        refine (xg176b_2 _ _ _ _ _ _).trans ?_
        rw [if_pos (by rw [xn_lt (by omega) (by omega)]; omega), i1]
        refine (xg176b_10 _ _ _ _ _ _).trans ?_
        simp (disch := omega) only [xi_t, xn_k, xn_lt, xn_eq, xn_mul, xn_add, xn_sub, xn_dec, xn_m1, xn_1m, if_pos, if_neg, if_true, if_false, cond_true, cond_false, true_and, and_true, false_and, and_false, xr_cI_s, xr_cV_s, xr_cI_e, xr_cV_e, xm_xs, xs_xs]
      · by_cases q : k = r
        · subst q; rw [i2 j hj, F _ _ (by omega)]
        · rw [F2 k 1081 (by omega)]; exact e2 k j (by omega) hj
      · rw [F2 b e (by omega)]; exact F b e h
  obtain ⟨M, v, e1, e2, F⟩ := out n (Nat.le_refl _)
  refine ⟨M, ?_, e2, F⟩
  rw [xe176b, e1]
  refine (xg176b_2 _ _ _ _ _ _).trans ?_
  rw [if_neg (by rw [xn_lt (by omega) (by omega)]; omega)]
theorem gm176c {n : Nat} (hn : n ≤ 160) : ∃ M, xr_Call (d + 1) 176 [xP 0 83, xP 0 82, xI (nI n)] ([], w) S = some (.inl none, ([], w), xs S M) ∧ (∀ k j, k < n → j < 2 → M k 1082 j = xm S k 1083 j) ∧ ∀ b e, ¬ e = 1082 → M b e = xm S b e := by
  have inn : ∀ r, r < n → ∀ (M0 : xr_M) i, i ≤ 2 → ∃ M, xr_Run d 176 10 [xP 0 83, xP 0 82, xI (nI n), xI (nI r), xI (nI 0)] [] ([], w) (xs S M0) = xr_Run d 176 10 [xP 0 83, xP 0 82, xI (nI n), xI (nI r), xI (nI i)] [] ([], w) (xs S M) ∧ (∀ j, j < i → M r 1082 j = M0 r 1083 j) ∧ ∀ b e, ¬ (b = r ∧ e = 1082) → M b e = M0 b e := by
    intro r hr M0 i
    induction i with
    | zero => intro _; exact ⟨M0, rfl, fun j hj => by omega, fun _ _ _ => rfl⟩
    | succ i ih =>
      intro hi
      obtain ⟨M, e1, e2, F⟩ := ih (by omega)
      refine ⟨xw M r 1082 i (M0 r 1083 i), ?_, fun j hj => ?_, fun b e h => ?_⟩
      · rw [e1]
        refine (xg176c_10 _ _ _ _ _ _).trans ?_
        have h9 : M r 1083 i = M0 r 1083 i := by rw [F r 1083 (by omega)]
        simp (disch := omega) only [xi_t, xn_k, xn_lt, xn_eq, xn_mul, xn_add, xn_sub, xn_dec, xn_m1, xn_1m, if_pos, if_neg, if_true, if_false, cond_true, cond_false, true_and, and_true, false_and, and_false, xr_cI_s, xr_cV_s, xr_cI_e, xr_cV_e, xm_xs, xs_xs, h9]
      · by_cases q : j = i
        · subst q; rw [xw_y (by omega)]
        · rw [xw_n (by omega)]; exact e2 j (by omega)
      · rw [xw_r (by omega)]; exact F b e h
  have out : ∀ r, r ≤ n → ∃ M v, xr_Run d 176 2 [xP 0 83, xP 0 82, xI (nI n), xI (nI 0), xU] [] ([], w) S = xr_Run d 176 2 [xP 0 83, xP 0 82, xI (nI n), xI (nI r), v] [] ([], w) (xs S M) ∧ (∀ k j, k < r → j < 2 → M k 1082 j = xm S k 1083 j) ∧ ∀ b e, ¬ e = 1082 → M b e = xm S b e := by
    intro r
    induction r with
    | zero => intro _; exact ⟨xm S, xU, by rw [xs_xm], fun k j hk => by omega, fun _ _ _ => rfl⟩
    | succ r ih =>
      intro hr
      obtain ⟨M, v, e1, e2, F⟩ := ih (by omega)
      obtain ⟨M2, i1, i2, F2⟩ := inn r (by omega) M 2 (Nat.le_refl _)
      refine ⟨M2, xI (nI 2), ?_, fun k j hk hj => ?_, fun b e h => ?_⟩
      · rw [e1]
        refine (xg176c_2 _ _ _ _ _ _).trans ?_
        rw [if_pos (by rw [xn_lt (by omega) (by omega)]; omega), i1]
        refine (xg176c_10 _ _ _ _ _ _).trans ?_
        simp (disch := omega) only [xi_t, xn_k, xn_lt, xn_eq, xn_mul, xn_add, xn_sub, xn_dec, xn_m1, xn_1m, if_pos, if_neg, if_true, if_false, cond_true, cond_false, true_and, and_true, false_and, and_false, xr_cI_s, xr_cV_s, xr_cI_e, xr_cV_e, xm_xs, xs_xs]
      · by_cases q : k = r
        · subst q; rw [i2 j hj, F _ _ (by omega)]
        · rw [F2 k 1082 (by omega)]; exact e2 k j (by omega) hj
      · rw [F2 b e (by omega)]; exact F b e h
  obtain ⟨M, v, e1, e2, F⟩ := out n (Nat.le_refl _)
  refine ⟨M, ?_, e2, F⟩
  rw [xe176c, e1]
  refine (xg176c_2 _ _ _ _ _ _).trans ?_
  rw [if_neg (by rw [xn_lt (by omega) (by omega)]; omega)]
theorem gm176d {n : Nat} (hn : n ≤ 6) : ∃ M, xr_Call (d + 1) 176 [xP 0 85, xP 0 84, xI (nI n)] ([], w) S = some (.inl none, ([], w), xs S M) ∧ (∀ k j, k < n → j < 2 → M k 1084 j = xm S k 1085 j) ∧ ∀ b e, ¬ e = 1084 → M b e = xm S b e := by
  have inn : ∀ r, r < n → ∀ (M0 : xr_M) i, i ≤ 2 → ∃ M, xr_Run d 176 10 [xP 0 85, xP 0 84, xI (nI n), xI (nI r), xI (nI 0)] [] ([], w) (xs S M0) = xr_Run d 176 10 [xP 0 85, xP 0 84, xI (nI n), xI (nI r), xI (nI i)] [] ([], w) (xs S M) ∧ (∀ j, j < i → M r 1084 j = M0 r 1085 j) ∧ ∀ b e, ¬ (b = r ∧ e = 1084) → M b e = M0 b e := by
    intro r hr M0 i
    induction i with
    | zero => intro _; exact ⟨M0, rfl, fun j hj => by omega, fun _ _ _ => rfl⟩
    | succ i ih =>
      intro hi
      obtain ⟨M, e1, e2, F⟩ := ih (by omega)
      refine ⟨xw M r 1084 i (M0 r 1085 i), ?_, fun j hj => ?_, fun b e h => ?_⟩
      · rw [e1]
        refine (xg176d_10 _ _ _ _ _ _).trans ?_
        have h9 : M r 1085 i = M0 r 1085 i := by rw [F r 1085 (by omega)]
        simp (disch := omega) only [xi_t, xn_k, xn_lt, xn_eq, xn_mul, xn_add, xn_sub, xn_dec, xn_m1, xn_1m, if_pos, if_neg, if_true, if_false, cond_true, cond_false, true_and, and_true, false_and, and_false, xr_cI_s, xr_cV_s, xr_cI_e, xr_cV_e, xm_xs, xs_xs, h9]
      · by_cases q : j = i
        · subst q; rw [xw_y (by omega)]
        · rw [xw_n (by omega)]; exact e2 j (by omega)
      · rw [xw_r (by omega)]; exact F b e h
  have out : ∀ r, r ≤ n → ∃ M v, xr_Run d 176 2 [xP 0 85, xP 0 84, xI (nI n), xI (nI 0), xU] [] ([], w) S = xr_Run d 176 2 [xP 0 85, xP 0 84, xI (nI n), xI (nI r), v] [] ([], w) (xs S M) ∧ (∀ k j, k < r → j < 2 → M k 1084 j = xm S k 1085 j) ∧ ∀ b e, ¬ e = 1084 → M b e = xm S b e := by
    intro r
    induction r with
    | zero => intro _; exact ⟨xm S, xU, by rw [xs_xm], fun k j hk => by omega, fun _ _ _ => rfl⟩
    | succ r ih =>
      intro hr
      obtain ⟨M, v, e1, e2, F⟩ := ih (by omega)
      obtain ⟨M2, i1, i2, F2⟩ := inn r (by omega) M 2 (Nat.le_refl _)
      refine ⟨M2, xI (nI 2), ?_, fun k j hk hj => ?_, fun b e h => ?_⟩
      · rw [e1]
        refine (xg176d_2 _ _ _ _ _ _).trans ?_
        rw [if_pos (by rw [xn_lt (by omega) (by omega)]; omega), i1]
        refine (xg176d_10 _ _ _ _ _ _).trans ?_
        simp (disch := omega) only [xi_t, xn_k, xn_lt, xn_eq, xn_mul, xn_add, xn_sub, xn_dec, xn_m1, xn_1m, if_pos, if_neg, if_true, if_false, cond_true, cond_false, true_and, and_true, false_and, and_false, xr_cI_s, xr_cV_s, xr_cI_e, xr_cV_e, xm_xs, xs_xs]
      · by_cases q : k = r
        · subst q; rw [i2 j hj, F _ _ (by omega)]
        · rw [F2 k 1084 (by omega)]; exact e2 k j (by omega) hj
      · rw [F2 b e (by omega)]; exact F b e h
  obtain ⟨M, v, e1, e2, F⟩ := out n (Nat.le_refl _)
  refine ⟨M, ?_, e2, F⟩
  rw [xe176d, e1]
  refine (xg176d_2 _ _ _ _ _ _).trans ?_
  rw [if_neg (by rw [xn_lt (by omega) (by omega)]; omega)]
end
