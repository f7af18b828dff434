/-! A NEW GROUND: the class's all, the model -/
section
variable {d : Nat}
theorem tc143 {a k : Nat} {nx : xr_A} {pa : Option Nat} {M : xr_M} {D : xr_D} {Y : hY} {h : Nat → Nat} {s : Nat → Nat → Int32} (I : hInv Y) (C : cPl M Y) (H : xhC (M 0 10) (M 0 11) h s) (B : xhB 81 h) : ∃ M' D', xr_Call (d + 6) 143 [xP 0 0] xMh (a, k, nx, pa, M, D) = some (.inl none, xMh, (a, k, nx, none, M', D')) ∧ cGb M' Y ∧ xhC (M' 0 10) (M' 0 11) Y.2.2.2.2 (fun _ _ => -2) ∧ (M' 0 53 4 = nI 0 ∧ M' 0 63 2 = nI 0 ∧ (∀ i, i < 6 → M' 0 64 i = -1) ∧ M' 0 0 14 = nI 0 ∧ M' 0 0 16 = nI 0) ∧ (∀ b e, ¬ (b = 0 ∧ (e = 0 ∨ (3 ≤ e ∧ e ≤ 11) ∨ e = 53 ∨ e = 63 ∨ e = 64)) → M' b e = M b e) ∧ ∀ k, ¬ (k = 14 ∨ k = 16) → M' 0 0 k = M 0 0 k := by
  obtain ⟨M1, q1, G1, H1, F1⟩ := tc5 (d := d) (w := [44, 35, 53, 58, 63, 66]) (S := (a, k, nx, pa, M, D)) I C H B
  have F1 : ∀ b e, ¬ (b = 0 ∧ 3 ≤ e ∧ e ≤ 11) → M1 b e = M b e := F1
  obtain ⟨M2, hM2⟩ : ∃ M2, M2 = xw M1 0 53 4 (nI 0) := ⟨_, rfl⟩
  obtain ⟨M3, q3, e3, F3⟩ := cf64 (d := d + 3) (w := [44, 35, 53, 58, 63, 66]) (S := (a, k, nx, pa, M2, D)) (-1)
  have F3 : ∀ b e, ¬ (b = 0 ∧ e = 64) → M3 b e = M2 b e := F3
  obtain ⟨M4, hM4⟩ : ∃ M4, M4 = xw M3 0 63 2 (nI 0) := ⟨_, rfl⟩
  obtain ⟨M5, hM5⟩ : ∃ M5, M5 = xw (xw M4 0 0 14 (nI 0)) 0 0 16 (nI 0) := ⟨_, rfl⟩
  have F5 : ∀ b e, ¬ (b = 0 ∧ (e = 0 ∨ e = 53 ∨ e = 63 ∨ e = 64)) → M5 b e = M1 b e := fun b e g => by rw [hM5, xw_r (by omega), xw_r (by omega), hM4, xw_r (by omega), F3 b e (by omega), hM2, xw_r (by omega)]
  have G0 : ∀ k, ¬ (k = 14 ∨ k = 16) → M5 0 0 k = M 0 0 k := fun k g => by rw [hM5, xw_n (by omega), xw_n (by omega), hM4, xw_n (by omega), F3 0 0 (by omega), hM2, xw_n (by omega), F1 0 0 (by omega)]
  refine ⟨M5, xr_up (xr_up (xr_up D 0 0 none) 0 1 none) 0 2 none, ?_, ?_, ?_, ⟨?_, ?_, fun i hi => ?_, ?_, ?_⟩, fun b e g => ?_, G0⟩
  · refine (xh143_0 (d + 5) _).trans ?_
    rw [show xr_Call (d + 5) 5 [xP 0 3, xP 0 44] xMh (a, k, nx, pa, M, D) = _ from q1, xr_cV_s, xe45 (d + 4), xr_cV_s]
    have t2 : xs (xs (a, k, nx, pa, M, D) M1) (xw (xm (xs (a, k, nx, pa, M, D) M1)) 0 53 4 (nI 0)) = (a, k, nx, pa, M2, D) := by rw [hM2]; rfl
    rw [t2, xe93 (d + 4) _ _ 63 (Or.inl rfl), show xr_Call (d + 4) 280 [xP 0 (63 + 1), xI (-1)] ([], [44, 35, 53, 58, 63, 66]) (a, k, nx, pa, M2, D) = _ from q3, xr_cV_s, xr_cV_s]
    have t4 : xr_sp (xs (xs (a, k, nx, pa, M2, D) M3) (xw (xm (xs (a, k, nx, pa, M2, D) M3)) 0 63 2 (nI 0))) none = (a, k, nx, none, M4, D) := by rw [hM4]; rfl
    rw [t4]
    have i0 : xr_in (nI 0) 3 = true := xi_t (by omega) (by omega)
    have i1 : xr_in (nI 1) 3 = true := xi_t (by omega) (by omega)
    have i2 : xr_in (nI 2) 3 = true := xi_t (by omega) (by omega)
    have k0 : xk (nI 0) = 0 := xn_k (by omega)
    have k1 : xk (nI 1) = 1 := xn_k (by omega)
    have k2 : xk (nI 2) = 2 := xn_k (by omega)
    have a1 : nI 0 + nI 1 = nI 1 := by decide
    have a2 : nI 1 + nI 1 = nI 2 := by decide
    have a3 : nI 2 + nI 1 = nI 3 := by decide
    rw [xh143_32, if_pos (by decide), i0, cond_true, k0, a1, xh143_32, if_pos (by decide), i1, cond_true, k1, a2, xh143_32, if_pos (by decide), i2, cond_true, k2, a3, xh143_32, if_neg (by decide), hM5]
    rfl
  · obtain ⟨g0, g1, g2, g3, g4, g5⟩ := G1
    refine ⟨?_, ?_, ?_, ?_, ?_, ?_⟩
    · rw [F5 0 3 (by omega)]; exact g0
    · rw [F5 0 4 (by omega)]; exact g1
    · rw [F5 0 5 (by omega)]; exact g2
    · rw [F5 0 6 (by omega)]; exact g3
    · rw [F5 0 7 (by omega)]; exact g4
    · rw [F5 0 8 (by omega)]; exact g5
  · rw [F5 0 10 (by omega), F5 0 11 (by omega)]; exact H1
  · rw [hM5, xw_n (by omega), xw_n (by omega), hM4, xw_n (by omega), F3 0 53 (by omega), hM2, xw_y (by omega)]
  · rw [hM5, xw_n (by omega), xw_n (by omega), hM4, xw_y (by omega)]
  · rw [hM5, xw_n (by omega), xw_n (by omega), hM4, xw_n (by omega)]; exact e3 i hi
  · rw [hM5, xw_n (by omega), xw_y (by omega)]
  · rw [hM5, xw_y (by omega)]
  · rw [F5 b e (by omega), F1 b e (by omega)]
end
/-- what the model holds anew, of a text's plan -/
def mGb (M0 M : xr_M) (Y : hY) : Prop := (∀ k, k < 4 → M 0 73 k = M0 0 72 k) ∧ (∀ p j, p < Y.1.2.1 → j < 5 → M p 1079 j = M0 p 1078 j) ∧ (∀ p i, p < Y.1.2.1 → i < 6 → M p 1081 i = M0 p 1080 i) ∧ (∀ p, p < Y.1.1 → M 0 89 p = nI (Y.2.1 p)) ∧ (∀ k, k < 2 * Y.1.2.1 → M 0 89 (16 + k) = M0 (k / 2) 1078 (k % 2)) ∧ (∀ k i, k < 2 * Y.1.2.1 → i < 6 → M 0 89 (48 + 6 * k + i) = if i < (Y.2.2.1 (k / 2)).2.2.2.2 then M0 (k / 2) 1080 i else nI 0) ∧ (∀ j, (8 ≤ j ∧ j < 16) ∨ (32 ≤ j ∧ j < 48) ∨ j = 144 → M 0 89 j = nI 0) ∧ (∀ x, x < 8 → M 0 89 (145 + x) = nI (Y.2.2.2.2 x)) ∧ ∀ x k, x < 8 → k < Y.2.2.2.2 x → M 0 89 (153 + 80 * x + k) = -2
section
variable {d : Nat} {w : List Nat}
theorem tm178 {S : xr_S} {Y : hY} (I : hInv Y) (C : mPl (xm S) Y) : ∃ M, xr_Call (d + 2) 178 [xP 0 69] ([], w) S = some (.inl none, ([], w), xs S M) ∧ mGb (xm S) M Y ∧ (M 0 69 21 = nI 0 ∧ M 0 69 35 = nI 0 ∧ M 0 69 36 = nI 0 ∧ M 0 69 37 = nI 0 ∧ M 0 69 38 = nI 0) ∧ (∀ b e, ¬ (b = 0 ∧ (e = 69 ∨ e = 73 ∨ e = 75 ∨ e = 77 ∨ e = 89)) → ¬ (e = 1079 ∨ e = 1081) → M b e = xm S b e) ∧ ∀ k, ¬ (k = 21 ∨ (35 ≤ k ∧ k ≤ 38)) → M 0 69 k = xm S 0 69 k := by
  obtain ⟨⟨i1, i2, i3, i4, i5⟩, i6, i7, i8⟩ := I
  obtain ⟨⟨c0, c1, c2, c3⟩, c4, c5, c6, c8⟩ := C
  have k0 : xk (nI 0) = 0 := xn_k (by omega)
  have k1 : xk (nI 1) = 1 := xn_k (by omega)
  have k4 : xk (nI 4) = 4 := xn_k (by omega)
  have t0 : xr_in (nI 0) 4 = true := xi_t (by omega) (by omega)
  have t1 : xr_in (nI 1) 4 = true := xi_t (by omega) (by omega)
  -- told
  have L1 : ∀ k, k ≤ 4 → ∃ M, xr_Run (d + 1) 178 2 [xP 0 69, xI (nI 0), xU] [] ([], w) S = xr_Run (d + 1) 178 2 [xP 0 69, xI (nI k), xU] [] ([], w) (xs S M) ∧ (∀ j, j < k → M 0 73 j = xm S 0 72 j) ∧ ∀ b e, ¬ (b = 0 ∧ e = 73) → M b e = xm S b e := by
    intro k
    induction k with
    | zero => intro _; exact ⟨xm S, by rw [xs_xm], fun j hj => by omega, fun _ _ _ => rfl⟩
    | succ k ih =>
      intro hk
      obtain ⟨M, e1, e2, F⟩ := ih (by omega)
      refine ⟨xw M 0 73 k (xm S 0 72 k), ?_, fun j hj => ?_, fun b e g => by rw [xw_r g]; exact F b e g⟩
      · rw [e1]
        refine (xg178_2 _ _ _ _).trans ?_
        rw [if_pos (by rw [xn_lt (by omega) (by omega)]; omega), xi_t (by omega) (by omega), cond_true, cond_true, xn_k (by omega), xm_xs, F 0 72 (by omega), xn_add, xs_xs]
      · by_cases q : j = k
        · subst q; rw [xw_y (by omega)]
        · rw [xw_n (by omega)]; exact e2 j (by omega)
  obtain ⟨M1, q1, e1, F1⟩ := L1 4 (Nat.le_refl _)
  have q1 := q1.trans ((xg178_2 _ _ _ _).trans (if_neg (by rw [xn_lt (by omega) (by omega)]; omega)))
  have n0 : M1 0 73 0 = nI Y.1.1 := by rw [e1 0 (by omega)]; exact c0
  have n1 : M1 0 73 1 = nI Y.1.2.1 := by rw [e1 1 (by omega)]; exact c1
  -- has
  have L2 : ∀ k, k ≤ Y.1.1 → ∃ M, xr_Run (d + 1) 178 27 [xP 0 69, xI (nI 0), xU] [] ([], w) (xs S M1) = xr_Run (d + 1) 178 27 [xP 0 69, xI (nI k), xU] [] ([], w) (xs S M) ∧ (∀ j, j < k → M 0 75 j = xm S 0 74 j) ∧ ∀ b e, ¬ (b = 0 ∧ e = 75) → M b e = M1 b e := by
    intro k
    induction k with
    | zero => intro _; exact ⟨M1, rfl, fun j hj => by omega, fun _ _ _ => rfl⟩
    | succ k ih =>
      intro hk
      obtain ⟨M, g1, g2, F⟩ := ih (by omega)
      refine ⟨xw M 0 75 k (xm S 0 74 k), ?_, fun j hj => ?_, fun b e g => by rw [xw_r g]; exact F b e g⟩
      · rw [g1]
        refine (xg178_27 _ _ _ _).trans ?_
        rw [t0, cond_true, k0, xm_xs, F 0 73 (by omega), n0, if_pos (by rw [xn_lt (by omega) (by omega)]; omega), xi_t (by omega) (by omega), cond_true, cond_true, xn_k (by omega), F 0 74 (by omega), F1 0 74 (by omega), xn_add, xs_xs]
      · by_cases q : j = k
        · subst q; rw [xw_y (by omega)]
        · rw [xw_n (by omega)]; exact g2 j (by omega)
  obtain ⟨M2, q2, e2, F2⟩ := L2 Y.1.1 (Nat.le_refl _)
  have q2 : xr_Run (d + 1) 178 27 [xP 0 69, xI (nI 0), xU] [] ([], w) (xs S M1) = xr_Run (d + 1) 178 57 [xP 0 69, xI (nI 0), xU] [] ([], w) (xs S M2) := by
    rw [q2]
    refine (xg178_27 _ _ _ _).trans ?_
    rw [t0, cond_true, k0, xm_xs, F2 0 73 (by omega), n0, if_neg (by rw [xn_lt (by omega) (by omega)]; omega)]
  -- heap
  have L3 : ∀ k, k ≤ 8 → ∃ M, xr_Run (d + 1) 178 57 [xP 0 69, xI (nI 0), xU] [] ([], w) (xs S M2) = xr_Run (d + 1) 178 57 [xP 0 69, xI (nI k), xU] [] ([], w) (xs S M) ∧ (∀ j, j < k → M 0 77 j = xm S 0 76 j) ∧ ∀ b e, ¬ (b = 0 ∧ e = 77) → M b e = M2 b e := by
    intro k
    induction k with
    | zero => intro _; exact ⟨M2, rfl, fun j hj => by omega, fun _ _ _ => rfl⟩
    | succ k ih =>
      intro hk
      obtain ⟨M, g1, g2, F⟩ := ih (by omega)
      refine ⟨xw M 0 77 k (xm S 0 76 k), ?_, fun j hj => ?_, fun b e g => by rw [xw_r g]; exact F b e g⟩
      · rw [g1]
        refine (xg178_57 _ _ _ _).trans ?_
        rw [if_pos (by rw [xn_lt (by omega) (by omega)]; omega), xi_t (by omega) (by omega), cond_true, cond_true, xn_k (by omega), xm_xs, F 0 76 (by omega), F2 0 76 (by omega), F1 0 76 (by omega), xn_add, xs_xs]
      · by_cases q : j = k
        · subst q; rw [xw_y (by omega)]
        · rw [xw_n (by omega)]; exact g2 j (by omega)
  obtain ⟨M3, q3, e3, F3⟩ := L3 8 (Nat.le_refl _)
  have F03 : ∀ b e, ¬ (b = 0 ∧ (e = 73 ∨ e = 75 ∨ e = 77)) → M3 b e = xm S b e := fun b e g => by rw [F3 b e (by omega), F2 b e (by omega), F1 b e (by omega)]
  have m73 : M3 0 73 = M1 0 73 := by rw [F3 0 73 (by omega), F2 0 73 (by omega)]
  obtain ⟨M4, q4, e4, F4⟩ := gm176a (d := d) (w := w) (S := xs S M3) (n := Y.1.2.1) i2
  rw [xs_xs] at q4
  rw [xm_xs] at e4 F4
  obtain ⟨M5, q5, e5, F5⟩ := gm176b (d := d) (w := w) (S := xs S M4) (n := Y.1.2.1) i2
  rw [xs_xs] at q5
  rw [xm_xs] at e5 F5
  have q3 : xr_Run (d + 1) 178 57 [xP 0 69, xI (nI 0), xU] [] ([], w) (xs S M2) = xr_Run (d + 1) 178 117 [xP 0 69, xI (nI 0), xU] [] ([], w) (xs S M5) := by
    rw [q3]
    refine (xg178_57 _ _ _ _).trans ?_
    rw [if_neg (by rw [xn_lt (by omega) (by omega)]; omega), t1, cond_true, k1, xm_xs, m73, n1, show xr_Call (d + 1) 176 [xP 0 78, xP 0 79, xI (nI Y.1.2.1)] ([], w) (xs S M3) = _ from q4, xr_cV_s, cond_true, xm_xs, F4 0 73 (by omega), m73, n1, show xr_Call (d + 1) 176 [xP 0 80, xP 0 81, xI (nI Y.1.2.1)] ([], w) (xs S M4) = _ from q5, xr_cV_s]
  have F05 : ∀ b e, ¬ (b = 0 ∧ (e = 73 ∨ e = 75 ∨ e = 77)) → ¬ (e = 1079 ∨ e = 1081) → M5 b e = xm S b e := fun b e g1 g2 => by rw [F5 b e (by omega), F4 b e (by omega), F03 b e g1]
  have r79 : ∀ p j, p < Y.1.2.1 → j < 5 → M5 p 1079 j = xm S p 1078 j := fun p j hp hj => by rw [F5 p 1079 (by omega), e4 p j hp hj, F03 p 1078 (by omega)]
  have r81 : ∀ p j, p < Y.1.2.1 → j < 6 → M5 p 1081 j = xm S p 1080 j := fun p j hp hj => by rw [e5 p j hp hj, F4 p 1080 (by omega), F03 p 1080 (by omega)]
  have m575 : ∀ p, p < Y.1.1 → M5 0 75 p = nI (Y.2.1 p) := fun p hp => by rw [F5 0 75 (by omega), F4 0 75 (by omega), F3 0 75 (by omega), e2 p hp]; exact c4 p hp
  have m577 : ∀ x, x < 8 → M5 0 77 x = nI (Y.2.2.2.2 x) := fun x hx => by rw [F5 0 77 (by omega), F4 0 77 (by omega), e3 x hx]; exact c8 x hx
  have m573 : M5 0 73 = M1 0 73 := by rw [F5 0 73 (by omega), F4 0 73 (by omega), m73]
  -- zeros
  have L4 : ∀ k, k ≤ 793 → ∃ M, xr_Run (d + 1) 178 117 [xP 0 69, xI (nI 0), xU] [] ([], w) (xs S M5) = xr_Run (d + 1) 178 117 [xP 0 69, xI (nI k), xU] [] ([], w) (xs S M) ∧ (∀ j, j < k → M 0 89 j = nI 0) ∧ ∀ b e, ¬ (b = 0 ∧ e = 89) → M b e = M5 b e := by
    intro k
    induction k with
    | zero => intro _; exact ⟨M5, rfl, fun j hj => by omega, fun _ _ _ => rfl⟩
    | succ k ih =>
      intro hk
      obtain ⟨M, g1, g2, F⟩ := ih (by omega)
      refine ⟨xw M 0 89 k (nI 0), ?_, fun j hj => ?_, fun b e g => by rw [xw_r g]; exact F b e g⟩
      · rw [g1]
        refine (xg178_117 _ _ _ _).trans ?_
        rw [if_pos (by rw [xn_lt (by omega) (by omega)]; omega), xi_t (by omega) (by omega), cond_true, xn_k (by omega), xm_xs, xn_add, xs_xs]
      · by_cases q : j = k
        · subst q; rw [xw_y (by omega)]
        · rw [xw_n (by omega)]; exact g2 j (by omega)
  obtain ⟨M6, q6, e6, F6⟩ := L4 793 (Nat.le_refl _)
  have q6 := q6.trans ((xg178_117 _ _ _ _).trans (if_neg (by rw [xn_lt (by omega) (by omega)]; omega)))
  -- what they have
  have L5 : ∀ k, k ≤ Y.1.1 → ∃ M, xr_Run (d + 1) 178 139 [xP 0 69, xI (nI 0), xU] [] ([], w) (xs S M6) = xr_Run (d + 1) 178 139 [xP 0 69, xI (nI k), xU] [] ([], w) (xs S M) ∧ (∀ j, j < k → M 0 89 j = nI (Y.2.1 j)) ∧ (∀ j, k ≤ j → j < 793 → M 0 89 j = nI 0) ∧ ∀ b e, ¬ (b = 0 ∧ e = 89) → M b e = M5 b e := by
    intro k
    induction k with
    | zero => intro _; exact ⟨M6, rfl, fun j hj => by omega, fun j _ hj => e6 j hj, F6⟩
    | succ k ih =>
      intro hk
      obtain ⟨M, g1, g2, g3, F⟩ := ih (by omega)
      refine ⟨xw M 0 89 k (nI (Y.2.1 k)), ?_, fun j hj => ?_, fun j h1 h2 => ?_, fun b e g => by rw [xw_r g]; exact F b e g⟩
      · rw [g1]
        refine (xg178_139 _ _ _ _).trans ?_
        rw [t0, cond_true, k0, xm_xs, F 0 73 (by omega), m573, n0, if_pos (by rw [xn_lt (by omega) (by omega)]; omega), xi_t (show k < 8 by omega) (by omega), cond_true, xn_add, Nat.zero_add, xi_t (show k < 793 by omega) (by omega), cond_true, xn_k (by omega), F 0 75 (by omega), m575 k (by omega), xn_add, xs_xs]
      · by_cases q : j = k
        · subst q; rw [xw_y (by omega)]
        · rw [xw_n (by omega)]; exact g2 j (by omega)
      · rw [xw_n (by omega)]; exact g3 j (by omega) h2
  obtain ⟨M7, q7, e7, z7, F7⟩ := L5 Y.1.1 (Nat.le_refl _)
  have q7 : xr_Run (d + 1) 178 139 [xP 0 69, xI (nI 0), xU] [] ([], w) (xs S M6) = xr_Run (d + 1) 178 171 [xP 0 69, xI (nI 0), xU] [] ([], w) (xs S M7) := by
    rw [q7]
    refine (xg178_139 _ _ _ _).trans ?_
    rw [t0, cond_true, k0, xm_xs, F7 0 73 (by omega), m573, n0, if_neg (by rw [xn_lt (by omega) (by omega)]; omega)]
  -- halves
  have nz : ¬ nI 2 = 0 := by decide
  have r4 : ∀ p, p < Y.1.2.1 → M5 p 1079 4 = nI (Y.2.2.1 p).2.2.2.2 := fun p hp => by rw [r79 p 4 hp (by omega)]; exact (c5 p hp).2.2.2.2
  have L6 : ∀ k, k < 2 * Y.1.2.1 → ∀ (M0 : xr_M), (∀ b e, ¬ (b = 0 ∧ e = 89) → M0 b e = M5 b e) → ∀ i, i ≤ (Y.2.2.1 (k / 2)).2.2.2.2 → ∃ M, xr_Run (d + 1) 178 206 [xP 0 69, xI (nI k), xI (nI 0)] [] ([], w) (xs S M0) = xr_Run (d + 1) 178 206 [xP 0 69, xI (nI k), xI (nI i)] [] ([], w) (xs S M) ∧ (∀ j, j < i → M 0 89 (48 + 6 * k + j) = xm S (k / 2) 1080 j) ∧ (∀ j, ¬ (48 + 6 * k ≤ j ∧ j < 48 + 6 * k + i) → M 0 89 j = M0 0 89 j) ∧ ∀ b e, ¬ (b = 0 ∧ e = 89) → M b e = M5 b e := by
    intro k hk M0 F0 i
    induction i with
    | zero => intro _; exact ⟨M0, rfl, fun j hj => by omega, fun _ _ => rfl, F0⟩
    | succ i ih =>
      intro hi
      obtain ⟨_, _, _, _, l6⟩ := i6 (k / 2) (by omega)
      obtain ⟨M, g1, g2, g3, F⟩ := ih (by omega)
      refine ⟨xw M 0 89 (48 + 6 * k + i) (xm S (k / 2) 1080 i), ?_, fun j hj => ?_, fun j hj => ?_, fun b e g => by rw [xw_r g]; exact F b e g⟩
      · rw [g1]
        refine (xg178_206 _ _ _ _ _).trans ?_
        rw [if_neg nz, xn_div (by omega) (by omega) (by omega), xi_t (show k / 2 < 8 by omega) (by omega), cond_true, xi_t (show 4 < 5 by omega) (by omega), cond_true, xn_k (show k / 2 < 2147483648 by omega), k4, xm_xs, F (k / 2) 1079 (by omega), r4 (k / 2) (by omega), if_pos (by rw [xn_lt (by omega) (by omega)]; omega), if_neg nz, cond_true, xi_t (show i < 6 by omega) (by omega), cond_true, xn_mul, xn_add, xn_add, xi_t (show 48 + 6 * k + i < 793 by omega) (by omega), cond_true, xn_k (show i < 2147483648 by omega), xn_k (show 48 + 6 * k + i < 2147483648 by omega), F (k / 2) 1081 (by omega), r81 (k / 2) i (by omega) (by omega), xn_add, xs_xs]
      · by_cases q : j = i
        · subst q; rw [xw_y (by omega)]
        · rw [xw_n (by omega)]; exact g2 j (by omega)
      · rw [xw_n (by omega)]; exact g3 j (by omega)
  have L7 : ∀ k, k ≤ 2 * Y.1.2.1 → ∃ M v, xr_Run (d + 1) 178 171 [xP 0 69, xI (nI 0), xU] [] ([], w) (xs S M7) = xr_Run (d + 1) 178 171 [xP 0 69, xI (nI k), v] [] ([], w) (xs S M) ∧ (∀ j, j < k → M 0 89 (16 + j) = xm S (j / 2) 1078 (j % 2)) ∧ (∀ j i, j < 16 → i < 6 → M 0 89 (48 + 6 * j + i) = if j < k ∧ i < (Y.2.2.1 (j / 2)).2.2.2.2 then xm S (j / 2) 1080 i else nI 0) ∧ (∀ j, ¬ (16 ≤ j ∧ j < 32) → ¬ (48 ≤ j ∧ j < 144) → M 0 89 j = M7 0 89 j) ∧ ∀ b e, ¬ (b = 0 ∧ e = 89) → M b e = M5 b e := by
    intro k
    induction k with
    | zero =>
      intro _
      refine ⟨M7, xU, rfl, fun j hj => by omega, fun j i hj hi => ?_, fun _ _ _ => rfl, F7⟩
      rw [if_neg (by omega)]
      exact z7 _ (by omega) (by omega)
    | succ k ih =>
      intro hk
      obtain ⟨M, v, g1, g2, g3, g4, F⟩ := ih (by omega)
      obtain ⟨_, _, _, l3, l6⟩ := i6 (k / 2) (by omega)
      obtain ⟨M0, hM0⟩ : ∃ M0, M0 = xw M 0 89 (16 + k) (xm S (k / 2) 1078 (k % 2)) := ⟨_, rfl⟩
      obtain ⟨Ma, a1, a2, a3, Fa⟩ := L6 k (by omega) M0 (fun b e g => by rw [hM0, xw_r g]; exact F b e g) (Y.2.2.1 (k / 2)).2.2.2.2 (Nat.le_refl _)
      have hmod : nI k - nI (k / 2) * nI 2 = nI (k % 2) := by rw [xn_mul, xn_sub (by omega), show k - k / 2 * 2 = k % 2 by omega]
      refine ⟨Ma, xI (nI (Y.2.2.1 (k / 2)).2.2.2.2), ?_, fun j hj => ?_, fun j i hj hi => ?_, fun j h1 h2 => ?_, Fa⟩
      · rw [g1]
        refine (xg178_171 _ _ _ _ _).trans ?_
        rw [t1, cond_true, k1, xm_xs, F 0 73 (by omega), m573, n1, xn_mul, if_pos (by rw [xn_lt (by omega) (by omega)]; omega), if_neg nz, xn_div (by omega) (by omega) (by omega), xi_t (show k / 2 < 8 by omega) (by omega), cond_true, if_neg nz, hmod, xi_t (show k % 2 < 5 by omega) (by omega), cond_true, xn_add, xi_t (show 16 + k < 793 by omega) (by omega), cond_true, xn_k (show 16 + k < 2147483648 by omega), xn_k (show k / 2 < 2147483648 by omega), xn_k (show k % 2 < 2147483648 by omega), F (k / 2) 1079 (by omega), r79 (k / 2) (k % 2) (by omega) (by omega), xs_xs, ← hM0, a1]
        refine (xg178_206 _ _ _ _ _).trans ?_
        rw [if_neg nz, xn_div (by omega) (by omega) (by omega), xi_t (show k / 2 < 8 by omega) (by omega), cond_true, xi_t (show 4 < 5 by omega) (by omega), cond_true, xn_k (show k / 2 < 2147483648 by omega), k4, xm_xs, Fa (k / 2) 1079 (by omega), r4 (k / 2) (by omega), if_neg (by rw [xn_lt (by omega) (by omega)]; omega), xn_add]
      · rw [a3 (16 + j) (by omega), hM0]
        by_cases q : j = k
        · subst q; rw [xw_y (by omega)]
        · rw [xw_n (by omega)]; exact g2 j (by omega)
      · by_cases q : j = k
        · subst q
          by_cases q2 : i < (Y.2.2.1 (j / 2)).2.2.2.2
          · rw [if_pos ⟨by omega, q2⟩]; exact a2 i q2
          · rw [if_neg (fun g => q2 g.2), a3 _ (by omega), hM0, xw_n (by omega), g3 j i hj hi, if_neg (fun g => q2 g.2)]
        · rw [a3 _ (by omega), hM0, xw_n (by omega), g3 j i hj hi]
          by_cases q2 : j < k ∧ i < (Y.2.2.1 (j / 2)).2.2.2.2
          · rw [if_pos q2, if_pos ⟨by omega, q2.2⟩]
          · rw [if_neg q2, if_neg (fun g => q2 ⟨by omega, g.2⟩)]
      · rw [a3 j (by omega), hM0, xw_n (by omega)]; exact g4 j h1 h2
  obtain ⟨M8, v8, q8, e8, d8, z8, F8⟩ := L7 (2 * Y.1.2.1) (Nat.le_refl _)
  have q8 : xr_Run (d + 1) 178 171 [xP 0 69, xI (nI 0), xU] [] ([], w) (xs S M7) = xr_Run (d + 1) 178 258 [xP 0 69, xI (nI 0), v8] [] ([], w) (xs S M8) := by
    rw [q8]
    refine (xg178_171 _ _ _ _ _).trans ?_
    rw [t1, cond_true, k1, xm_xs, F8 0 73 (by omega), m573, n1, xn_mul, if_neg (by rw [xn_lt (by omega) (by omega)]; omega)]
  -- shards
  have L8 : ∀ x, x < 8 → ∀ (M0 : xr_M), (∀ b e, ¬ (b = 0 ∧ e = 89) → M0 b e = M5 b e) → ∀ i, i ≤ Y.2.2.2.2 x → ∃ M, xr_Run (d + 1) 178 282 [xP 0 69, xI (nI x), xI (nI 0)] [] ([], w) (xs S M0) = xr_Run (d + 1) 178 282 [xP 0 69, xI (nI x), xI (nI i)] [] ([], w) (xs S M) ∧ (∀ j, j < i → M 0 89 (153 + 80 * x + j) = -2) ∧ (∀ j, ¬ (153 + 80 * x ≤ j ∧ j < 153 + 80 * x + i) → M 0 89 j = M0 0 89 j) ∧ ∀ b e, ¬ (b = 0 ∧ e = 89) → M b e = M5 b e := by
    intro x hx M0 F0 i
    induction i with
    | zero => intro _; exact ⟨M0, rfl, fun j hj => by omega, fun _ _ => rfl, F0⟩
    | succ i ih =>
      intro hi
      have := i8 x
      obtain ⟨M, g1, g2, g3, F⟩ := ih (by omega)
      refine ⟨xw M 0 89 (153 + 80 * x + i) (-2), ?_, fun j hj => ?_, fun j hj => ?_, fun b e g => by rw [xw_r g]; exact F b e g⟩
      · rw [g1]
        refine (xg178_282 _ _ _ _ _).trans ?_
        rw [xi_t hx (by omega), cond_true, xn_k (show x < 2147483648 by omega), xm_xs, F 0 77 (by omega), m577 x hx, if_pos (by rw [xn_lt (by omega) (by omega)]; omega), xn_mul, xn_add, xn_add, xi_t (show 153 + 80 * x + i < 793 by omega) (by omega), cond_true, xn_k (show 153 + 80 * x + i < 2147483648 by omega), xn_add, xs_xs]
      · by_cases q : j = i
        · subst q; rw [xw_y (by omega)]
        · rw [xw_n (by omega)]; exact g2 j (by omega)
      · rw [xw_n (by omega)]; exact g3 j (by omega)
  have L9 : ∀ x, x ≤ 8 → ∃ M v, xr_Run (d + 1) 178 258 [xP 0 69, xI (nI 0), v8] [] ([], w) (xs S M8) = xr_Run (d + 1) 178 258 [xP 0 69, xI (nI x), v] [] ([], w) (xs S M) ∧ (∀ j, j < x → M 0 89 (145 + j) = nI (Y.2.2.2.2 j)) ∧ (∀ j i, j < x → i < Y.2.2.2.2 j → M 0 89 (153 + 80 * j + i) = -2) ∧ (∀ j, j < 145 → M 0 89 j = M8 0 89 j) ∧ ∀ b e, ¬ (b = 0 ∧ e = 89) → M b e = M5 b e := by
    intro x
    induction x with
    | zero => intro _; exact ⟨M8, v8, rfl, fun j hj => by omega, fun j i hj => by omega, fun _ _ => rfl, F8⟩
    | succ x ih =>
      intro hx
      have := i8 x
      obtain ⟨M, v, g1, g2, g3, g4, F⟩ := ih (by omega)
      obtain ⟨M0, hM0⟩ : ∃ M0, M0 = xw M 0 89 (145 + x) (nI (Y.2.2.2.2 x)) := ⟨_, rfl⟩
      obtain ⟨Ma, a1, a2, a3, Fa⟩ := L8 x (by omega) M0 (fun b e g => by rw [hM0, xw_r g]; exact F b e g) (Y.2.2.2.2 x) (Nat.le_refl _)
      refine ⟨Ma, xI (nI (Y.2.2.2.2 x)), ?_, fun j hj => ?_, fun j i hj hi => ?_, fun j hj => ?_, Fa⟩
      · rw [g1]
        refine (xg178_258 _ _ _ _ _).trans ?_
        rw [if_pos (by rw [xn_lt (by omega) (by omega)]; omega), xi_t (show x < 8 by omega) (by omega), cond_true, xn_add, xi_t (show 145 + x < 793 by omega) (by omega), cond_true, xn_k (show 145 + x < 2147483648 by omega), xn_k (show x < 2147483648 by omega), xm_xs, F 0 77 (by omega), m577 x (by omega), xs_xs, ← hM0, a1]
        refine (xg178_282 _ _ _ _ _).trans ?_
        rw [xi_t (by omega) (by omega), cond_true, xn_k (show x < 2147483648 by omega), xm_xs, Fa 0 77 (by omega), m577 x (by omega), if_neg (by rw [xn_lt (by omega) (by omega)]; omega), xn_add]
      · rw [a3 (145 + j) (by omega), hM0]
        by_cases q : j = x
        · subst q; rw [xw_y (by omega)]
        · rw [xw_n (by omega)]; exact g2 j (by omega)
      · by_cases q : j = x
        · subst q; exact a2 i hi
        · have := i8 j
          rw [a3 _ (by omega), hM0, xw_n (by omega)]; exact g3 j i (by omega) hi
      · rw [a3 j (by omega), hM0, xw_n (by omega)]; exact g4 j hj
  obtain ⟨M9, v9, q9, e9, s9, z9, F9⟩ := L9 8 (Nat.le_refl _)
  obtain ⟨MF, hMF⟩ : ∃ MF, MF = xw (xw (xw (xw (xw M9 0 69 21 (nI 0)) 0 69 35 (nI 0)) 0 69 36 (nI 0)) 0 69 37 (nI 0)) 0 69 38 (nI 0) := ⟨_, rfl⟩
  have FF : ∀ b e, ¬ (b = 0 ∧ e = 69) → MF b e = M9 b e := fun b e g => by rw [hMF, xw_r g, xw_r g, xw_r g, xw_r g, xw_r g]
  have m89 : MF 0 89 = M9 0 89 := FF 0 89 (by omega)
  refine ⟨MF, ?_, ⟨fun k hk => ?_, fun p j hp hj => ?_, fun p i hp hi => ?_, fun p hp => ?_, fun k hk => ?_, fun k i hk hi => ?_, fun j hj => ?_, fun x hx => ?_, fun x k hx hk => ?_⟩, ⟨?_, ?_, ?_, ?_, ?_⟩, fun b e g1 g2 => ?_, fun k hk => ?_⟩
  · rw [xe178, q1, q2, q3, q6, q7, q8, q9]
    refine (xg178_258 _ _ _ _ _).trans ?_
    rw [if_neg (by rw [xn_lt (by omega) (by omega)]; omega), xm_xs, xs_xs, hMF]
  · rw [FF 0 73 (by omega), F9 0 73 (by omega), m573]; exact e1 k hk
  · rw [FF p 1079 (by omega), F9 p 1079 (by omega)]; exact r79 p j hp hj
  · rw [FF p 1081 (by omega), F9 p 1081 (by omega)]; exact r81 p i hp hi
  · rw [m89, z9 p (by omega), z8 p (by omega) (by omega)]; exact e7 p hp
  · rw [m89, z9 _ (by omega)]; exact e8 k hk
  · rw [m89, z9 _ (by omega), d8 k i (by omega) hi]
    by_cases q : i < (Y.2.2.1 (k / 2)).2.2.2.2
    · rw [if_pos ⟨hk, q⟩, if_pos q]
    · rw [if_neg (fun g => q g.2), if_neg q]
  · rw [m89, z9 j (by omega), z8 j (by omega) (by omega)]; exact z7 j (by omega) (by omega)
  · rw [m89]; exact e9 x hx
  · rw [m89]; exact s9 x k hx hk
  · rw [hMF, xw_n (by omega), xw_n (by omega), xw_n (by omega), xw_n (by omega), xw_y (by omega)]
  · rw [hMF, xw_n (by omega), xw_n (by omega), xw_n (by omega), xw_y (by omega)]
  · rw [hMF, xw_n (by omega), xw_n (by omega), xw_y (by omega)]
  · rw [hMF, xw_n (by omega), xw_y (by omega)]
  · rw [hMF, xw_y (by omega)]
  · rw [FF b e (by omega), F9 b e (by omega), F05 b e (by omega) g2]
  · rw [hMF, xw_n (by omega), xw_n (by omega), xw_n (by omega), xw_n (by omega), xw_n (by omega), F9 0 69 (by omega), F05 0 69 (by omega) (by omega)]
end
