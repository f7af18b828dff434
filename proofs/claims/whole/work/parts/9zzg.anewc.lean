/-! A NEW GROUND: the class -/
theorem xck {a b n n0 n1 : Nat} (h1 : a + n ≤ n0) (h2 : b + n ≤ n1) (h0 : n0 < 10000) (h3 : n1 < 10000) : xr_cok (nI a) (nI b) (nI n) n0 n1 = true := by
  unfold xr_cok
  rw [nI_toInt (by omega), nI_toInt (by omega), nI_toInt (by omega)]
  exact decide_eq_true (by omega)
section
variable {d : Nat} {w : List Nat}
/-- the old shards -/
theorem tc27 {S : xr_S} {ol : Nat → Nat} {h : Nat → Nat} {s : Nat → Nat → Int32} (ho : ∀ x, ol x ≤ 9) (e52 : ∀ x, x < 8 → xm S 0 52 x = nI (ol x)) (H : xhC (xm S 0 10) (xm S 0 11) h s) (B : xhB 81 h) : ∃ M, xr_Call (d + 3) 27 [xP 0 9, xP 0 44] ([], w) S = some (.inl none, ([], w), xs S M) ∧ xhC (M 0 10) (M 0 11) ol (fun _ _ => -2) ∧ ∀ b e, ¬ (b = 0 ∧ (e = 10 ∨ e = 11)) → M b e = xm S b e := by
  have inn : ∀ x, x < 8 → ∀ (M0 : xr_M) (h0 : Nat → Nat) (s0 : Nat → Nat → Int32), (∀ b e, ¬ (b = 0 ∧ (e = 10 ∨ e = 11)) → M0 b e = xm S b e) → xhC (M0 0 10) (M0 0 11) h0 s0 → xhB 81 h0 → h0 x = 0 → ∀ k, k ≤ ol x → ∃ M h1 s1, xr_Run (d + 2) 27 17 [xP 0 9, xP 0 44, xI (nI x), xI (nI 0)] [] ([], w) (xs S M0) = xr_Run (d + 2) 27 17 [xP 0 9, xP 0 44, xI (nI x), xI (nI k)] [] ([], w) (xs S M) ∧ (∀ b e, ¬ (b = 0 ∧ (e = 10 ∨ e = 11)) → M b e = xm S b e) ∧ xhC (M 0 10) (M 0 11) h1 s1 ∧ xhB 81 h1 ∧ h1 x = k ∧ (∀ y, ¬ y = x → h1 y = h0 y ∧ ∀ j, s1 y j = s0 y j) ∧ ∀ j, j < k → s1 x j = -2 := by
    intro x hx M0 h0 s0 F0 H0 B0 z0 k
    induction k with
    | zero => intro _; exact ⟨M0, h0, s0, rfl, F0, H0, B0, z0, fun y _ => ⟨rfl, fun _ => rfl⟩, fun j hj => by omega⟩
    | succ k ih =>
      intro hk
      have := ho x
      obtain ⟨M, h1, s1, e1, F1, H1, B1, z1, y1, j1⟩ := ih (by omega)
      obtain ⟨M2, e2, H2, F2⟩ := hc29 (d := d + 1) (w := w) (S := xs S M) (c := 9) (Or.inl rfl) H1 B1 hx (by omega) (-2)
      rw [xs_xs] at e2
      rw [xm_xs] at F2
      refine ⟨M2, hup h1 x (h1 x + 1), hus s1 x (h1 x) (-2), ?_, fun b e g => by rw [F2 b e (by omega)]; exact F1 b e g, H2, ?_, ?_, fun y hy => ⟨?_, fun j => ?_⟩, fun j hj => ?_⟩
      · rw [e1]
        refine (xg27_17 _ _ _ _ _).trans ?_
        rw [xi_t hx (by omega), cond_true, xn_k (by omega), xm_xs, F1 0 52 (by omega), e52 x hx, if_pos (by rw [xn_lt (by omega) (by omega)]; omega), show xr_Call (d + 2) 29 [xP 0 9, xI (nI x), xI (-2)] ([], w) (xs S M) = _ from e2, xr_cV_s, xn_add]
      · intro y hy
        unfold hup
        split
        · omega
        · exact B1 y hy
      · unfold hup; rw [if_pos rfl, z1]
      · unfold hup; rw [if_neg hy]; exact (y1 y hy).1
      · unfold hus; rw [if_neg (fun g => hy g.1)]; exact (y1 y hy).2 j
      · unfold hus
        by_cases q : j = k
        · rw [if_pos ⟨rfl, by rw [z1]; exact q⟩]
        · rw [if_neg (by omega)]; exact j1 j (by omega)
  have out : ∀ x, x ≤ 8 → ∃ M h1 s1 v, xr_Run (d + 2) 27 2 [xP 0 9, xP 0 44, xI (nI 0), xU] [] ([], w) S = xr_Run (d + 2) 27 2 [xP 0 9, xP 0 44, xI (nI x), v] [] ([], w) (xs S M) ∧ (∀ b e, ¬ (b = 0 ∧ (e = 10 ∨ e = 11)) → M b e = xm S b e) ∧ xhC (M 0 10) (M 0 11) h1 s1 ∧ xhB 81 h1 ∧ (∀ y, y < x → h1 y = ol y ∧ ∀ j, j < ol y → s1 y j = -2) := by
    intro x
    induction x with
    | zero => intro _; exact ⟨xm S, h, s, xU, by rw [xs_xm], fun _ _ _ => rfl, H, B, fun y hy => by omega⟩
    | succ x ih =>
      intro hx
      obtain ⟨M, h1, s1, v, e1, F1, H1, B1, y1⟩ := ih (by omega)
      obtain ⟨M2, hM2⟩ : ∃ M2, M2 = xw M 0 10 x (nI 0) := ⟨_, rfl⟩
      have H2 : xhC (M2 0 10) (M2 0 11) (hup h1 x 0) s1 := by
        refine ⟨fun y hy => ?_, fun y j hy hj => ?_⟩
        · rw [hM2]
          unfold hup
          by_cases q : y = x
          · rw [if_pos q, xw_y (by omega)]
          · rw [if_neg q, xw_n (by omega)]; exact H1.1 y hy
        · rw [hM2, xw_n (by omega)]
          unfold hup at hj
          by_cases q : y = x
          · rw [if_pos q] at hj; omega
          · rw [if_neg q] at hj; exact H1.2 y j hy hj
      obtain ⟨M3, h3, s3, e3, F3, H3, B3, z3, y3, j3⟩ := inn x (by omega) M2 (hup h1 x 0) s1 (fun b e g => by rw [hM2, xw_r (by omega)]; exact F1 b e g) H2 (fun y hy => by
        unfold hup
        split
        · omega
        · exact B1 y hy) (by unfold hup; rw [if_pos rfl]) (ol x) (Nat.le_refl _)
      have := ho x
      refine ⟨M3, h3, s3, xI (nI (ol x)), ?_, F3, H3, B3, fun y hy => ?_⟩
      · rw [e1]
        refine (xg27_2 _ _ _ _ _).trans ?_
        rw [if_pos (by rw [xn_lt (by omega) (by omega)]; omega), xi_t (by omega) (by omega), cond_true, xn_k (by omega), xm_xs, xs_xs, ← hM2, e3]
        refine (xg27_17 _ _ _ _ _).trans ?_
        rw [xi_t (by omega) (by omega), cond_true, xn_k (by omega), xm_xs, F3 0 52 (by omega), e52 x (by omega), if_neg (by rw [xn_lt (by omega) (by omega)]; omega), xn_add]
      · by_cases q : y = x
        · subst q; exact ⟨z3, j3⟩
        · obtain ⟨g1, g2⟩ := y3 y q
          obtain ⟨g3, g4⟩ := y1 y (by omega)
          refine ⟨?_, fun j hj => ?_⟩
          · rw [g1]; unfold hup; rw [if_neg q]; exact g3
          · rw [g2 j]; exact g4 j hj
  obtain ⟨M, h1, s1, v, e1, F1, H1, B1, y1⟩ := out 8 (Nat.le_refl _)
  refine ⟨M, ?_, ⟨fun x hx => ?_, fun x k hx hk => ?_⟩, F1⟩
  · rw [xe27, e1]
    refine (xg27_2 _ _ _ _ _).trans ?_
    rw [if_neg (by rw [xn_lt (by omega) (by omega)]; omega)]
  · rw [H1.1 x hx, (y1 x hx).1]
  · rw [H1.2 x k hx (by rw [(y1 x hx).1]; exact hk)]; exact (y1 x hx).2 k hk
/-- what a new ground holds, of a text's plan -/
def cGb (M : xr_M) (Y : hY) : Prop := M 0 3 0 = nI 0 ∧ (∀ p, p < Y.1.1 → M 0 4 p = nI (Y.2.1 p)) ∧ (∀ p, p < 8 → M 0 5 p = nI 0) ∧ (∀ p, p < Y.1.2.1 → M 0 6 (2 * p) = nI (Y.2.2.1 p).1 ∧ M 0 6 (2 * p + 1) = nI (Y.2.2.1 p).2.1) ∧ (∀ k, k < 16 → M 0 7 k = nI 0) ∧ ∀ p i, p < Y.1.2.1 → i < 6 → M 0 8 (2 * p * 6 + i) = nI (Y.2.2.2.1 p i) ∧ M 0 8 ((2 * p + 1) * 6 + i) = nI (Y.2.2.2.1 p i)
theorem tc5 {S : xr_S} {Y : hY} {h : Nat → Nat} {s : Nat → Nat → Int32} (I : hInv Y) (C : cPl (xm S) Y) (H : xhC (xm S 0 10) (xm S 0 11) h s) (B : xhB 81 h) : ∃ M, xr_Call (d + 5) 5 [xP 0 3, xP 0 44] ([], w) S = some (.inl none, ([], w), xs S M) ∧ cGb M Y ∧ xhC (M 0 10) (M 0 11) Y.2.2.2.2 (fun _ _ => -2) ∧ ∀ b e, ¬ (b = 0 ∧ 3 ≤ e ∧ e ≤ 11) → M b e = xm S b e := by
  obtain ⟨⟨i1, i2, i3, i4, i5⟩, i6, i7, i8⟩ := I
  obtain ⟨⟨c0, c1, c2, c3⟩, c4, c5, c6, c7, c8⟩ := C
  obtain ⟨M0, hM0⟩ : ∃ M0, M0 = xcp (xw (xm S) 0 3 0 (nI 0)) 0 45 0 0 4 0 8 := ⟨_, rfl⟩
  have F0 : ∀ b e, ¬ (b = 0 ∧ (e = 3 ∨ e = 4)) → M0 b e = xm S b e := fun b e g => by rw [hM0, xcp_r (by omega), xw_r (by omega)]
  obtain ⟨M1, q1, e1, F1⟩ := cf5 (d := d + 3) (w := w) (S := xs S M0) (nI 0)
  rw [xs_xs] at q1
  rw [xm_xs] at F1
  obtain ⟨M2, q2, e2, F2⟩ := cf7 (d := d + 3) (w := w) (S := xs S M1) (nI 0)
  rw [xs_xs] at q2
  rw [xm_xs] at F2
  have F02 : ∀ b e, ¬ (b = 0 ∧ 3 ≤ e ∧ e ≤ 7) → M2 b e = xm S b e := fun b e g => by rw [F2 b e (by omega), F1 b e (by omega), F0 b e (by omega)]
  have n30 : M2 0 3 0 = nI 0 := by rw [F2 0 3 (by omega), F1 0 3 (by omega), hM0, xcp_r (by omega), xw_y (by omega)]
  have n4 : ∀ p, p < Y.1.1 → M2 0 4 p = nI (Y.2.1 p) := fun p hp => by
    rw [F2 0 4 (by omega), F1 0 4 (by omega), hM0, xcp_y (by omega), Nat.sub_zero, Nat.zero_add, xw_n (by omega)]
    exact c4 p hp
  have lp : ∀ k, k ≤ Y.1.2.1 → ∃ M v, xr_Run (d + 4) 5 41 [xP 0 3, xP 0 44, xI (nI 0), xU] [] ([], w) (xs S M2) = xr_Run (d + 4) 5 41 [xP 0 3, xP 0 44, xI (nI k), v] [] ([], w) (xs S M) ∧ (∀ b e, ¬ (b = 0 ∧ (e = 6 ∨ e = 8)) → M b e = M2 b e) ∧ (∀ p, p < k → M 0 6 (2 * p) = nI (Y.2.2.1 p).1 ∧ M 0 6 (2 * p + 1) = nI (Y.2.2.1 p).2.1) ∧ ∀ p i, p < k → i < 6 → M 0 8 (2 * p * 6 + i) = nI (Y.2.2.2.1 p i) ∧ M 0 8 ((2 * p + 1) * 6 + i) = nI (Y.2.2.2.1 p i) := by
    intro k
    induction k with
    | zero => intro _; exact ⟨M2, xU, rfl, fun _ _ _ => rfl, fun p hp => by omega, fun p i hp => by omega⟩
    | succ k ih =>
      intro hk
      obtain ⟨M, v, g1, g2, g3, g4⟩ := ih (by omega)
      have t44 : M 0 44 1 = nI Y.1.2.1 := by rw [g2 0 44 (by omega), F02 0 44 (by omega)]; exact c1
      obtain ⟨r1, r2, _⟩ := c5 k (by omega)
      have t46 : M 0 46 k = nI (Y.2.2.1 k).1 := by rw [g2 0 46 (by omega), F02 0 46 (by omega)]; exact r1
      have t47 : M 0 47 k = nI (Y.2.2.1 k).2.1 := by rw [g2 0 47 (by omega), F02 0 47 (by omega)]; exact r2
      have t51 : ∀ i, i < 6 → M 0 51 (k * 6 + i) = nI (Y.2.2.2.1 k i) := fun i hi => by rw [g2 0 51 (by omega), F02 0 51 (by omega)]; exact c6 k i (by omega) hi
      obtain ⟨A, hA⟩ : ∃ A, A = xw (xw M 0 6 (2 * k) (nI (Y.2.2.1 k).1)) 0 6 (2 * k + 1) (nI (Y.2.2.1 k).2.1) := ⟨_, rfl⟩
      have t47' : xw M 0 6 (2 * k) (nI (Y.2.2.1 k).1) 0 47 k = nI (Y.2.2.1 k).2.1 := by rw [xw_n (by omega)]; exact t47
      have A51 : A 0 51 = M 0 51 := by rw [hA, xw_r (by omega), xw_r (by omega)]
      refine ⟨xcp (xcp A 0 51 (k * 6) 0 8 (2 * (k * 6)) 6) 0 51 (k * 6) 0 8 (2 * (k * 6) + 6) 6, xI (nI (k * 6)), ?_, fun b e g => ?_, fun p hp => ?_, fun p i hp hi => ⟨?_, ?_⟩⟩
      · rw [g1]
        refine (xg5_41 _ _ _ _ _).trans ?_
        rw [xm_xs, t44, if_pos (by rw [xn_lt (by omega) (by omega)]; omega), xi_t (show k < 8 by omega) (by omega), xn_mul, xi_t (show 2 * k < 16 by omega) (by omega), xn_add, xi_t (show 2 * k + 1 < 16 by omega) (by omega), xn_mul, xn_mul, xn_add, xck (by omega) (by omega) (by omega) (by omega), xck (by omega) (by omega) (by omega) (by omega)]
        simp only [cond_true]
        rw [xn_k (show k < 2147483648 by omega), xn_k (show 2 * k < 2147483648 by omega), xn_k (show 2 * k + 1 < 2147483648 by omega), xn_k (show k * 6 < 2147483648 by omega), xn_k (show 2 * (k * 6) < 2147483648 by omega), xn_k (show 2 * (k * 6) + 6 < 2147483648 by omega), xn_k (show 6 < 2147483648 by omega), t46, t47', ← hA, xn_add, xs_xs]
      · rw [xcp_r (by omega), xcp_r (by omega), hA, xw_r (by omega), xw_r (by omega)]; exact g2 b e g
      · rw [xcp_r (by omega), xcp_r (by omega), hA]
        by_cases q : p = k
        · subst q
          exact ⟨by rw [xw_n (by omega), xw_y (by omega)], xw_y (by omega)⟩
        · obtain ⟨a1, a2⟩ := g3 p (by omega)
          exact ⟨by rw [xw_n (by omega), xw_n (by omega)]; exact a1, by rw [xw_n (by omega), xw_n (by omega)]; exact a2⟩
      · by_cases q : p = k
        · subst q
          rw [xcp_n (by omega), xcp_y (by omega), A51, show p * 6 + (2 * p * 6 + i - 2 * (p * 6)) = p * 6 + i by omega]
          exact t51 i hi
        · rw [xcp_n (by omega), xcp_n (by omega), hA, xw_n (by omega), xw_n (by omega)]
          exact (g4 p i (by omega) hi).1
      · by_cases q : p = k
        · subst q
          rw [xcp_y (by omega), xcp_r (by omega), A51, show p * 6 + ((2 * p + 1) * 6 + i - (2 * (p * 6) + 6)) = p * 6 + i by omega]
          exact t51 i hi
        · rw [xcp_n (by omega), xcp_n (by omega), hA, xw_n (by omega), xw_n (by omega)]
          exact (g4 p i (by omega) hi).2
  obtain ⟨M3, v, g1, g2, g3, g4⟩ := lp Y.1.2.1 (Nat.le_refl _)
  have F3 : ∀ b e, ¬ (b = 0 ∧ 3 ≤ e ∧ e ≤ 8) → M3 b e = xm S b e := fun b e g => by rw [g2 b e (by omega), F02 b e (by omega)]
  obtain ⟨M4, q4, H4, F4⟩ := tc27 (d := d + 1) (w := w) (S := xs S M3) (ol := Y.2.2.2.2) (h := h) (s := s) i8 (fun x hx => by rw [xm_xs, F3 0 52 (by omega)]; exact c8 x hx) (by rw [xm_xs, F3 0 10 (by omega), F3 0 11 (by omega)]; exact H) B
  rw [xs_xs] at q4
  rw [xm_xs] at F4
  have E4 : ∀ e, e ≤ 8 → M4 0 e = M3 0 e := fun e g => F4 0 e (by omega)
  refine ⟨M4, ?_, ⟨?_, fun p hp => ?_, fun p hp => ?_, fun p hp => ?_, fun k hk => ?_, fun p i hp hi => ?_⟩, H4, fun b e g => by rw [F4 b e (by omega), F3 b e (by omega)]⟩
  · have k0 : xk (nI 0) = 0 := xn_k (by omega)
    have k8 : xk (nI 8) = 8 := xn_k (by omega)
    rw [xe5 (d + 4), xck8, cond_true, k0, k8, ← hM0, show xr_Call (d + 4) 280 [xP 0 5, xI (nI 0)] ([], w) (xs S M0) = _ from q1, xr_cV_s, show xr_Call (d + 4) 280 [xP 0 7, xI (nI 0)] ([], w) (xs S M1) = _ from q2, xr_cV_s, g1]
    refine (xg5_41 _ _ _ _ _).trans ?_
    rw [xm_xs, F3 0 44 (by omega), c1, if_neg (by rw [xn_lt (by omega) (by omega)]; omega), show xr_Call (d + 4) 27 [xP 0 9, xP 0 44] ([], w) (xs S M3) = _ from q4, xr_cV_s]
  · rw [E4 3 (by omega), g2 0 3 (by omega)]; exact n30
  · rw [E4 4 (by omega), g2 0 4 (by omega)]; exact n4 p hp
  · rw [E4 5 (by omega), g2 0 5 (by omega), F2 0 5 (by omega)]; exact e1 p hp
  · rw [E4 6 (by omega)]; exact g3 p hp
  · rw [E4 7 (by omega), g2 0 7 (by omega)]; exact e2 k hk
  · rw [E4 8 (by omega)]; exact g4 p i hp hi
end
