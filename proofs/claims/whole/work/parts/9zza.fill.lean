/-! ROWS FILLED -/
section
variable {d : Nat} {w : List Nat} {S : xr_S}
theorem cf51 (v : Int32) : ∃ M, xr_Call (d + 1) 280 [xP 0 51, xI v] ([], w) S = some (.inl none, ([], w), xs S M) ∧ (∀ j, j < 48 → M 0 51 j = v) ∧ ∀ b e, ¬ (b = 0 ∧ e = 51) → M b e = xm S b e := by
  have lp : ∀ k, k ≤ 48 → ∃ M, xr_Run d 280 5 [xP 0 51, xI v, xI (nI 0), xI (nI 48)] [] ([], w) S = xr_Run d 280 5 [xP 0 51, xI v, xI (nI k), xI (nI 48)] [] ([], w) (xs S M) ∧ (∀ j, j < k → M 0 51 j = v) ∧ ∀ b e, ¬ (b = 0 ∧ e = 51) → M b e = xm S b e := by
    intro k
    induction k with
    | zero => intro _; exact ⟨xm S, by rw [xs_xm], fun j hj => by omega, fun _ _ _ => rfl⟩
    | succ k ih =>
      intro hk
      obtain ⟨M, e1, e2, F⟩ := ih (by omega)
      refine ⟨xw M 0 51 k v, ?_, fun j hj => ?_, fun b e g => by rw [xw_r g]; exact F b e g⟩
      · rw [e1]
        refine (xg28051_5 _ _ _ _ _ _).trans ?_
        rw [if_pos (by rw [xn_lt (by omega) (by omega)]; omega), xi_t (by omega) (by omega), cond_true, xn_k (by omega), xn_add, xm_xs, xs_xs]
      · by_cases q : j = k
        · subst q; rw [xw_y (by omega)]
        · rw [xw_n (by omega)]; exact e2 j (by omega)
  obtain ⟨M, e1, e2, F⟩ := lp 48 (Nat.le_refl _)
  refine ⟨M, ?_, e2, F⟩
  rw [xe28051, e1]
  refine (xg28051_5 _ _ _ _ _ _).trans ?_
  rw [if_neg (by rw [xn_lt (by omega) (by omega)]; omega)]
theorem cf52 (v : Int32) : ∃ M, xr_Call (d + 1) 280 [xP 0 52, xI v] ([], w) S = some (.inl none, ([], w), xs S M) ∧ (∀ j, j < 8 → M 0 52 j = v) ∧ ∀ b e, ¬ (b = 0 ∧ e = 52) → M b e = xm S b e := by
  have lp : ∀ k, k ≤ 8 → ∃ M, xr_Run d 280 5 [xP 0 52, xI v, xI (nI 0), xI (nI 8)] [] ([], w) S = xr_Run d 280 5 [xP 0 52, xI v, xI (nI k), xI (nI 8)] [] ([], w) (xs S M) ∧ (∀ j, j < k → M 0 52 j = v) ∧ ∀ b e, ¬ (b = 0 ∧ e = 52) → M b e = xm S b e := by
    intro k
    induction k with
    | zero => intro _; exact ⟨xm S, by rw [xs_xm], fun j hj => by omega, fun _ _ _ => rfl⟩
    | succ k ih =>
      intro hk
      obtain ⟨M, e1, e2, F⟩ := ih (by omega)
      refine ⟨xw M 0 52 k v, ?_, fun j hj => ?_, fun b e g => by rw [xw_r g]; exact F b e g⟩
      · rw [e1]
        refine (xg28052_5 _ _ _ _ _ _).trans ?_
        rw [if_pos (by rw [xn_lt (by omega) (by omega)]; omega), xi_t (by omega) (by omega), cond_true, xn_k (by omega), xn_add, xm_xs, xs_xs]
      · by_cases q : j = k
        · subst q; rw [xw_y (by omega)]
        · rw [xw_n (by omega)]; exact e2 j (by omega)
  obtain ⟨M, e1, e2, F⟩ := lp 8 (Nat.le_refl _)
  refine ⟨M, ?_, e2, F⟩
  rw [xe28052, e1]
  refine (xg28052_5 _ _ _ _ _ _).trans ?_
  rw [if_neg (by rw [xn_lt (by omega) (by omega)]; omega)]
theorem cf5 (v : Int32) : ∃ M, xr_Call (d + 1) 280 [xP 0 5, xI v] ([], w) S = some (.inl none, ([], w), xs S M) ∧ (∀ j, j < 8 → M 0 5 j = v) ∧ ∀ b e, ¬ (b = 0 ∧ e = 5) → M b e = xm S b e := by
  have lp : ∀ k, k ≤ 8 → ∃ M, xr_Run d 280 5 [xP 0 5, xI v, xI (nI 0), xI (nI 8)] [] ([], w) S = xr_Run d 280 5 [xP 0 5, xI v, xI (nI k), xI (nI 8)] [] ([], w) (xs S M) ∧ (∀ j, j < k → M 0 5 j = v) ∧ ∀ b e, ¬ (b = 0 ∧ e = 5) → M b e = xm S b e := by
    intro k
    induction k with
    | zero => intro _; exact ⟨xm S, by rw [xs_xm], fun j hj => by omega, fun _ _ _ => rfl⟩
    | succ k ih =>
      intro hk
      obtain ⟨M, e1, e2, F⟩ := ih (by omega)
      refine ⟨xw M 0 5 k v, ?_, fun j hj => ?_, fun b e g => by rw [xw_r g]; exact F b e g⟩
      · rw [e1]
        refine (xg2805_5 _ _ _ _ _ _).trans ?_
        rw [if_pos (by rw [xn_lt (by omega) (by omega)]; omega), xi_t (by omega) (by omega), cond_true, xn_k (by omega), xn_add, xm_xs, xs_xs]
      · by_cases q : j = k
        · subst q; rw [xw_y (by omega)]
        · rw [xw_n (by omega)]; exact e2 j (by omega)
  obtain ⟨M, e1, e2, F⟩ := lp 8 (Nat.le_refl _)
  refine ⟨M, ?_, e2, F⟩
  rw [xe2805, e1]
  refine (xg2805_5 _ _ _ _ _ _).trans ?_
  rw [if_neg (by rw [xn_lt (by omega) (by omega)]; omega)]
theorem cf7 (v : Int32) : ∃ M, xr_Call (d + 1) 280 [xP 0 7, xI v] ([], w) S = some (.inl none, ([], w), xs S M) ∧ (∀ j, j < 16 → M 0 7 j = v) ∧ ∀ b e, ¬ (b = 0 ∧ e = 7) → M b e = xm S b e := by
  have lp : ∀ k, k ≤ 16 → ∃ M, xr_Run d 280 5 [xP 0 7, xI v, xI (nI 0), xI (nI 16)] [] ([], w) S = xr_Run d 280 5 [xP 0 7, xI v, xI (nI k), xI (nI 16)] [] ([], w) (xs S M) ∧ (∀ j, j < k → M 0 7 j = v) ∧ ∀ b e, ¬ (b = 0 ∧ e = 7) → M b e = xm S b e := by
    intro k
    induction k with
    | zero => intro _; exact ⟨xm S, by rw [xs_xm], fun j hj => by omega, fun _ _ _ => rfl⟩
    | succ k ih =>
      intro hk
      obtain ⟨M, e1, e2, F⟩ := ih (by omega)
      refine ⟨xw M 0 7 k v, ?_, fun j hj => ?_, fun b e g => by rw [xw_r g]; exact F b e g⟩
      · rw [e1]
        refine (xg2807_5 _ _ _ _ _ _).trans ?_
        rw [if_pos (by rw [xn_lt (by omega) (by omega)]; omega), xi_t (by omega) (by omega), cond_true, xn_k (by omega), xn_add, xm_xs, xs_xs]
      · by_cases q : j = k
        · subst q; rw [xw_y (by omega)]
        · rw [xw_n (by omega)]; exact e2 j (by omega)
  obtain ⟨M, e1, e2, F⟩ := lp 16 (Nat.le_refl _)
  refine ⟨M, ?_, e2, F⟩
  rw [xe2807, e1]
  refine (xg2807_5 _ _ _ _ _ _).trans ?_
  rw [if_neg (by rw [xn_lt (by omega) (by omega)]; omega)]
theorem cf64 (v : Int32) : ∃ M, xr_Call (d + 1) 280 [xP 0 64, xI v] ([], w) S = some (.inl none, ([], w), xs S M) ∧ (∀ j, j < 6 → M 0 64 j = v) ∧ ∀ b e, ¬ (b = 0 ∧ e = 64) → M b e = xm S b e := by
  have lp : ∀ k, k ≤ 6 → ∃ M, xr_Run d 280 5 [xP 0 64, xI v, xI (nI 0), xI (nI 6)] [] ([], w) S = xr_Run d 280 5 [xP 0 64, xI v, xI (nI k), xI (nI 6)] [] ([], w) (xs S M) ∧ (∀ j, j < k → M 0 64 j = v) ∧ ∀ b e, ¬ (b = 0 ∧ e = 64) → M b e = xm S b e := by
    intro k
    induction k with
    | zero => intro _; exact ⟨xm S, by rw [xs_xm], fun j hj => by omega, fun _ _ _ => rfl⟩
    | succ k ih =>
      intro hk
      obtain ⟨M, e1, e2, F⟩ := ih (by omega)
      refine ⟨xw M 0 64 k v, ?_, fun j hj => ?_, fun b e g => by rw [xw_r g]; exact F b e g⟩
      · rw [e1]
        refine (xg28064_5 _ _ _ _ _ _).trans ?_
        rw [if_pos (by rw [xn_lt (by omega) (by omega)]; omega), xi_t (by omega) (by omega), cond_true, xn_k (by omega), xn_add, xm_xs, xs_xs]
      · by_cases q : j = k
        · subst q; rw [xw_y (by omega)]
        · rw [xw_n (by omega)]; exact e2 j (by omega)
  obtain ⟨M, e1, e2, F⟩ := lp 6 (Nat.le_refl _)
  refine ⟨M, ?_, e2, F⟩
  rw [xe28064, e1]
  refine (xg28064_5 _ _ _ _ _ _).trans ?_
  rw [if_neg (by rw [xn_lt (by omega) (by omega)]; omega)]
end
