/-! IMAGES in the model: a row of all -/
section
variable {d : Nat} {w : List Nat} {S : xr_S} {j : Nat}
theorem pm265s {t : Nat} (ht : t < 13482) (v : Int32) (e : xm S 0 69 39 = nI t) : xr_Call (d + 1) 265 [xP 0 69, xP j 1092, xI v, xI (nI 0)] ([], w) S = some (.inl (some v), ([], w), xs S (xw (xw (xm S) j 1092 t v) 0 69 39 (nI (t + 1)))) := by
  have e1 : xw (xm S) j 1092 t v 0 69 39 = nI t := by rw [xw_n (by omega)]; exact e
  have e2 : xw (xw (xm S) j 1092 t v) 0 69 39 (nI (t + 1)) 0 69 39 - nI 1 = nI t := by rw [xw_y (by omega), xn_sub (by omega), Nat.add_sub_cancel]
  rw [xe265, if_pos rfl, e, xi_t ht (by omega), cond_true, xn_k (by omega), e1, xn_add, e2, xi_t ht (by omega), cond_true, xn_k (by omega), xw_n (by omega), xw_y (by omega)]
theorem pm265b {t : Nat} (ht : t < 13482) (v : Int32) (e : xm S 0 69 39 = nI t) : xr_Call (d + 1) 265 [xP 0 69, xP j 1092, xI v, xI (nI 1)] ([], w) S = some (.inl (some (xm S j 1092 t)), ([], w), xs S (xw (xm S) 0 69 39 (nI (t + 1)))) := by
  have e2 : xw (xm S) 0 69 39 (nI (t + 1)) 0 69 39 - nI 1 = nI t := by rw [xw_y (by omega), xn_sub (by omega), Nat.add_sub_cancel]
  rw [xe265, if_neg (show ¬ nI 1 = nI 0 by decide), e, xn_add, e2, xi_t ht (by omega), cond_true, xn_k (by omega), xw_n (by omega)]
/-- kept: so far -/
def pSt (M0 M : xr_M) (j n r k : Nat) : Prop := M j 1092 0 = M0 0 69 36 ∧ (∀ i, i < n → M j 1092 (1 + i) = M0 0 89 i) ∧ (∀ r' i, i < 793 → (r' < r ∨ (r' = r ∧ i < k)) → M j 1092 (794 + 793 * r' + i) = M0 r' 1091 i) ∧ (∀ b e, ¬ (b = j ∧ e = 1092) → ¬ (b = 0 ∧ e = 69) → M b e = M0 b e) ∧ ∀ i, ¬ i = 39 → M 0 69 i = M0 0 69 i
theorem pm266s (hj : j < 3) : ∃ M, xr_Call (d + 2) 266 [xP 0 69, xP j 1092, xI (nI 0)] ([], w) S = some (.inl none, ([], w), xs S M) ∧ pSt (xm S) M j 793 16 0 := by
  have one : ∀ (M : xr_M) (t b c x : Nat) (v : Int32), t < 13482 → M 0 69 39 = nI t → ¬ (b = j ∧ c = 1092) → ¬ (b = 0 ∧ c = 69 ∧ x = 39) → v = M b c x → xw (xw (xw M j 1092 t v) 0 69 39 (nI (t + 1))) b c x v = xw (xw M j 1092 t v) 0 69 39 (nI (t + 1)) := fun M t b c x v _ _ h1 h2 h3 => xw_id (by rw [xw_n (by omega), xw_n (by omega)]; exact h3.symm)
  have lpA : ∀ k, k ≤ 793 → ∃ M, xr_Call (d + 2) 266 [xP 0 69, xP j 1092, xI (nI 0)] ([], w) S = xr_Run (d + 1) 266 21 [xP 0 69, xP j 1092, xI (nI 0), xI (nI k), xU] [] ([], w) (xs S M) ∧ M 0 69 39 = nI (1 + k) ∧ pSt (xm S) M j k 0 0 := by
    intro k
    induction k with
    | zero =>
      intro _
      have c5 := pm265s (d := d) (w := w) (S := xs S (xw (xm S) 0 69 39 (nI 0))) (j := j) (t := 0) (by omega) (xm S 0 69 36) (by rw [xm_xs, xw_y (by omega)])
      rw [xm_xs] at c5
      refine ⟨xw (xw (xw (xm S) 0 69 39 (nI 0)) j 1092 0 (xm S 0 69 36)) 0 69 39 (nI 1), ?_, xw_y (by omega), ?_, fun i hi => by omega, fun r' i h1 h2 => by omega, fun b e h1 h2 => ?_, fun i hi => ?_⟩
      · rw [xe266, xw_n (show ¬ (0 = 0 ∧ 69 = 69 ∧ 36 = 39) by omega), c5, xr_cI_s, xm_xs, xs_xs, xs_xs]
        rw [xw_id (M := xw (xw (xw (xm S) 0 69 39 (nI 0)) j 1092 0 (xm S 0 69 36)) 0 69 39 (nI (0 + 1))) (by rw [xw_n (by omega), xw_n (by omega), xw_n (by omega)])]
      · rw [xw_n (by omega), xw_y (by omega)]
      · rw [xw_r h2, xw_r h1, xw_r h2]
      · rw [xw_n (by omega), xw_n (by omega), xw_n (by omega)]
    | succ k ih =>
      intro hk
      obtain ⟨M, e1, e2, p1, p2, p3, p4, p5⟩ := ih (by omega)
      have c5 := pm265s (d := d) (w := w) (S := xs S M) (j := j) (t := 1 + k) (by omega) (M 0 89 k) e2
      rw [xs_xs, xm_xs] at c5
      refine ⟨xw (xw M j 1092 (1 + k) (M 0 89 k)) 0 69 39 (nI (1 + k + 1)), ?_, by rw [xw_y (by omega)]; rfl, ?_, fun i hi => ?_, fun r' i h1 h2 => by omega, fun b e h1 h2 => ?_, fun i hi => ?_⟩
      · rw [e1]
        refine (xg266_21 _ _ _ _ _ _).trans ?_
        rw [if_pos (by rw [xn_lt (by omega) (by omega)]; omega), xi_t (by omega) (by omega), cond_true, xn_k (by omega), xm_xs, c5, xr_cI_s, cond_true, xm_xs, xs_xs, one M (1 + k) 0 89 k _ (by omega) e2 (by omega) (by omega) rfl, xn_add]
      · rw [xw_n (by omega), xw_n (by omega)]; exact p1
      · rw [xw_n (by omega)]
        by_cases q : i = k
        · subst q; rw [xw_y (by omega), p4 0 89 (by omega) (by omega)]
        · rw [xw_n (by omega)]; exact p2 i (by omega)
      · rw [xw_r h2, xw_r h1]; exact p4 b e h1 h2
      · rw [xw_n (by omega), xw_n (by omega)]; exact p5 i hi
  have lpB : ∀ r, r < 16 → ∀ (M0 : xr_M), M0 0 69 39 = nI (794 + 793 * r) → pSt (xm S) M0 j 793 r 0 → ∀ k, k ≤ 793 → ∃ M, xr_Run (d + 1) 266 63 [xP 0 69, xP j 1092, xI (nI 0), xI (nI r), xI (nI 0)] [] ([], w) (xs S M0) = xr_Run (d + 1) 266 63 [xP 0 69, xP j 1092, xI (nI 0), xI (nI r), xI (nI k)] [] ([], w) (xs S M) ∧ M 0 69 39 = nI (794 + 793 * r + k) ∧ pSt (xm S) M j 793 r k := by
    intro r hr M0 h0 P0 k
    induction k with
    | zero => intro _; exact ⟨M0, rfl, h0, P0⟩
    | succ k ih =>
      intro hk
      obtain ⟨M, e1, e2, p1, p2, p3, p4, p5⟩ := ih (by omega)
      have c5 := pm265s (d := d) (w := w) (S := xs S M) (j := j) (t := 794 + 793 * r + k) (by omega) (M r 1091 k) e2
      rw [xs_xs, xm_xs] at c5
      refine ⟨xw (xw M j 1092 (794 + 793 * r + k) (M r 1091 k)) 0 69 39 (nI (794 + 793 * r + k + 1)), ?_, by rw [xw_y (by omega)]; rfl, ?_, fun i hi => ?_, fun r' i h1 h2 => ?_, fun b e h1 h2 => ?_, fun i hi => ?_⟩
      · rw [e1]
        refine (xg266_63 _ _ _ _ _ _ _).trans ?_
        have i16 : xr_in (nI r) 16 = true := xi_t hr (by omega)
        have i79 : xr_in (nI k) 793 = true := xi_t (by omega) (by omega)
        rw [if_pos (by rw [xn_lt (by omega) (by omega)]; omega), i16, i79, cond_true, cond_true, cond_true, xn_k (show r < 2147483648 by omega), xn_k (show k < 2147483648 by omega), xm_xs, c5, xr_cI_s, cond_true, xm_xs, xs_xs, one M (794 + 793 * r + k) r 1091 k _ (by omega) e2 (by omega) (by omega) rfl, xn_add]
      · rw [xw_n (by omega), xw_n (by omega)]; exact p1
      · rw [xw_n (by omega), xw_n (by omega)]; exact p2 i hi
      · rw [xw_n (by omega)]
        by_cases q : r' = r ∧ i = k
        · obtain ⟨rfl, rfl⟩ := q; rw [xw_y (by omega), p4 _ 1091 (by omega) (by omega)]
        · rw [xw_n (by omega)]; exact p3 r' i h1 (by omega)
      · rw [xw_r h2, xw_r h1]; exact p4 b e h1 h2
      · rw [xw_n (by omega), xw_n (by omega)]; exact p5 i hi
  obtain ⟨MA, a1, a2, PA⟩ := lpA 793 (Nat.le_refl _)
  have lpC : ∀ r, r ≤ 16 → ∃ M v, xr_Call (d + 2) 266 [xP 0 69, xP j 1092, xI (nI 0)] ([], w) S = xr_Run (d + 1) 266 54 [xP 0 69, xP j 1092, xI (nI 0), xI (nI r), v] [] ([], w) (xs S M) ∧ M 0 69 39 = nI (794 + 793 * r) ∧ pSt (xm S) M j 793 r 0 := by
    intro r
    induction r with
    | zero =>
      intro _
      refine ⟨MA, xU, ?_, a2, PA⟩
      rw [a1]
      refine (xg266_21 _ _ _ _ _ _).trans ?_
      rw [if_neg (by rw [xn_lt (by omega) (by omega)]; omega)]
    | succ r ih =>
      intro hr
      obtain ⟨M, v, e1, e2, P⟩ := ih (by omega)
      obtain ⟨M2, f1, f2, P2⟩ := lpB r (by omega) M e2 P 793 (Nat.le_refl _)
      refine ⟨M2, xI (nI 793), ?_, ?_, ?_⟩
      · rw [e1]
        refine (xg266_54 _ _ _ _ _ _ _).trans ?_
        rw [if_pos (by rw [xn_lt (by omega) (by omega)]; omega), f1]
        refine (xg266_63 _ _ _ _ _ _ _).trans ?_
        rw [if_neg (by rw [xn_lt (by omega) (by omega)]; omega), xn_add]
      · rw [f2, show 794 + 793 * (r + 1) = 794 + 793 * r + 793 by omega]
      · obtain ⟨p1, p2, p3, p4, p5⟩ := P2
        exact ⟨p1, p2, fun r' i h1 h2 => p3 r' i h1 (by omega), p4, p5⟩
  obtain ⟨M, v, e1, e2, P⟩ := lpC 16 (Nat.le_refl _)
  refine ⟨M, ?_, P⟩
  rw [e1]
  refine (xg266_54 _ _ _ _ _ _ _).trans ?_
  rw [if_neg (by rw [xn_lt (by omega) (by omega)]; omega)]
/-- taken back: so far -/
def pBk (M0 M : xr_M) (j n r k : Nat) : Prop := M 0 69 36 = M0 j 1092 0 ∧ (∀ i, i < n → M 0 89 i = M0 j 1092 (1 + i)) ∧ (∀ r' i, i < 793 → (r' < r ∨ (r' = r ∧ i < k)) → M r' 1091 i = M0 j 1092 (794 + 793 * r' + i)) ∧ (∀ b e, ¬ (b = 0 ∧ e = 89) → ¬ e = 1091 → ¬ (b = 0 ∧ e = 69) → M b e = M0 b e) ∧ ∀ i, ¬ (i = 36 ∨ i = 39) → M 0 69 i = M0 0 69 i
theorem pm266b (hj : j < 3) : ∃ M, xr_Call (d + 2) 266 [xP 0 69, xP j 1092, xI (nI 1)] ([], w) S = some (.inl none, ([], w), xs S M) ∧ pBk (xm S) M j 793 16 0 := by
  have lpA : ∀ k, k ≤ 793 → ∃ M, xr_Call (d + 2) 266 [xP 0 69, xP j 1092, xI (nI 1)] ([], w) S = xr_Run (d + 1) 266 21 [xP 0 69, xP j 1092, xI (nI 1), xI (nI k), xU] [] ([], w) (xs S M) ∧ M 0 69 39 = nI (1 + k) ∧ pBk (xm S) M j k 0 0 := by
    intro k
    induction k with
    | zero =>
      intro _
      have c5 := pm265b (d := d) (w := w) (S := xs S (xw (xm S) 0 69 39 (nI 0))) (j := j) (t := 0) (by omega) (xm S 0 69 36) (by rw [xm_xs, xw_y (by omega)])
      rw [xm_xs, xw_n (show ¬ (j = 0 ∧ 1092 = 69 ∧ 0 = 39) by omega)] at c5
      refine ⟨xw (xw (xw (xm S) 0 69 39 (nI 0)) 0 69 39 (nI 1)) 0 69 36 (xm S j 1092 0), ?_, by rw [xw_n (by omega), xw_y (by omega)], xw_y (by omega), fun i hi => by omega, fun r' i h1 h2 => by omega, fun b e h1 h2 h3 => ?_, fun i hi => ?_⟩
      · rw [xe266, xw_n (show ¬ (0 = 0 ∧ 69 = 69 ∧ 36 = 39) by omega), c5, xr_cI_s, xm_xs, xs_xs, xs_xs]
      · rw [xw_r h3, xw_r h3, xw_r h3]
      · rw [xw_n (by omega), xw_n (by omega), xw_n (by omega)]
    | succ k ih =>
      intro hk
      obtain ⟨M, e1, e2, p1, p2, p3, p4, p5⟩ := ih (by omega)
      have c5 := pm265b (d := d) (w := w) (S := xs S M) (j := j) (t := 1 + k) (by omega) (M 0 89 k) e2
      rw [xs_xs, xm_xs] at c5
      refine ⟨xw (xw M 0 69 39 (nI (1 + k + 1))) 0 89 k (M j 1092 (1 + k)), ?_, by rw [xw_n (by omega), xw_y (by omega)]; rfl, ?_, fun i hi => ?_, fun r' i h1 h2 => by omega, fun b e h1 h2 h3 => ?_, fun i hi => ?_⟩
      · rw [e1]
        refine (xg266_21 _ _ _ _ _ _).trans ?_
        rw [if_pos (by rw [xn_lt (by omega) (by omega)]; omega), xi_t (by omega) (by omega), cond_true, xn_k (by omega), xm_xs, c5, xr_cI_s, cond_true, xm_xs, xs_xs, xn_add]
      · rw [xw_n (by omega), xw_n (by omega)]; exact p1
      · by_cases q : i = k
        · subst q; rw [xw_y (by omega), p4 j 1092 (by omega) (by omega) (by omega)]
        · rw [xw_n (by omega), xw_n (by omega)]; exact p2 i (by omega)
      · rw [xw_r h1, xw_r h3]; exact p4 b e h1 h2 h3
      · rw [xw_n (by omega), xw_n (by omega)]; exact p5 i hi
  have lpB : ∀ r, r < 16 → ∀ (M0 : xr_M), M0 0 69 39 = nI (794 + 793 * r) → pBk (xm S) M0 j 793 r 0 → ∀ k, k ≤ 793 → ∃ M, xr_Run (d + 1) 266 63 [xP 0 69, xP j 1092, xI (nI 1), xI (nI r), xI (nI 0)] [] ([], w) (xs S M0) = xr_Run (d + 1) 266 63 [xP 0 69, xP j 1092, xI (nI 1), xI (nI r), xI (nI k)] [] ([], w) (xs S M) ∧ M 0 69 39 = nI (794 + 793 * r + k) ∧ pBk (xm S) M j 793 r k := by
    intro r hr M0 h0 P0 k
    induction k with
    | zero => intro _; exact ⟨M0, rfl, h0, P0⟩
    | succ k ih =>
      intro hk
      obtain ⟨M, e1, e2, p1, p2, p3, p4, p5⟩ := ih (by omega)
      have c5 := pm265b (d := d) (w := w) (S := xs S M) (j := j) (t := 794 + 793 * r + k) (by omega) (M r 1091 k) e2
      rw [xs_xs, xm_xs] at c5
      refine ⟨xw (xw M 0 69 39 (nI (794 + 793 * r + k + 1))) r 1091 k (M j 1092 (794 + 793 * r + k)), ?_, by rw [xw_n (by omega), xw_y (by omega)]; rfl, ?_, fun i hi => ?_, fun r' i h1 h2 => ?_, fun b e h1 h2 h3 => ?_, fun i hi => ?_⟩
      · rw [e1]
        refine (xg266_63 _ _ _ _ _ _ _).trans ?_
        have i16 : xr_in (nI r) 16 = true := xi_t hr (by omega)
        have i79 : xr_in (nI k) 793 = true := xi_t (by omega) (by omega)
        rw [if_pos (by rw [xn_lt (by omega) (by omega)]; omega), i16, i79, cond_true, cond_true, cond_true, xn_k (show r < 2147483648 by omega), xn_k (show k < 2147483648 by omega), xm_xs, c5, xr_cI_s, cond_true, xm_xs, xs_xs, xn_add]
      · rw [xw_n (by omega), xw_n (by omega)]; exact p1
      · rw [xw_n (by omega), xw_n (by omega)]; exact p2 i hi
      · by_cases q : r' = r ∧ i = k
        · obtain ⟨rfl, rfl⟩ := q; rw [xw_y (by omega), p4 j 1092 (by omega) (by omega) (by omega)]
        · rw [xw_n (by omega), xw_n (by omega)]; exact p3 r' i h1 (by omega)
      · rw [xw_r (by omega), xw_r h3]; exact p4 b e h1 h2 h3
      · rw [xw_n (by omega), xw_n (by omega)]; exact p5 i hi
  obtain ⟨MA, a1, a2, PA⟩ := lpA 793 (Nat.le_refl _)
  have lpC : ∀ r, r ≤ 16 → ∃ M v, xr_Call (d + 2) 266 [xP 0 69, xP j 1092, xI (nI 1)] ([], w) S = xr_Run (d + 1) 266 54 [xP 0 69, xP j 1092, xI (nI 1), xI (nI r), v] [] ([], w) (xs S M) ∧ M 0 69 39 = nI (794 + 793 * r) ∧ pBk (xm S) M j 793 r 0 := by
    intro r
    induction r with
    | zero =>
      intro _
      refine ⟨MA, xU, ?_, a2, PA⟩
      rw [a1]
      refine (xg266_21 _ _ _ _ _ _).trans ?_
      rw [if_neg (by rw [xn_lt (by omega) (by omega)]; omega)]
    | succ r ih =>
      intro hr
      obtain ⟨M, v, e1, e2, P⟩ := ih (by omega)
      obtain ⟨M2, f1, f2, P2⟩ := lpB r (by omega) M e2 P 793 (Nat.le_refl _)
      refine ⟨M2, xI (nI 793), ?_, ?_, ?_⟩
      · rw [e1]
        refine (xg266_54 _ _ _ _ _ _ _).trans ?_
        rw [if_pos (by rw [xn_lt (by omega) (by omega)]; omega), f1]
        refine (xg266_63 _ _ _ _ _ _ _).trans ?_
        rw [if_neg (by rw [xn_lt (by omega) (by omega)]; omega), xn_add]
      · rw [f2, show 794 + 793 * (r + 1) = 794 + 793 * r + 793 by omega]
      · obtain ⟨p1, p2, p3, p4, p5⟩ := P2
        exact ⟨p1, p2, fun r' i h1 h2 => p3 r' i h1 (by omega), p4, p5⟩
  obtain ⟨M, v, e1, e2, P⟩ := lpC 16 (Nat.le_refl _)
  refine ⟨M, ?_, P⟩
  rw [e1]
  refine (xg266_54 _ _ _ _ _ _ _).trans ?_
  rw [if_neg (by rw [xn_lt (by omega) (by omega)]; omega)]
end
