/-! COPIES of the ground -/
def xCp (M M' : xr_M) (b c b1 c1 : Nat) : Prop := M' b1 c1 0 = M b c 0 ∧ (∀ k, k < 8 → M' b1 (c1 + 1) k = M b (c + 1) k) ∧ (∀ k, k < 8 → M' b1 (c1 + 2) k = M b (c + 2) k) ∧ (∀ k, k < 16 → M' b1 (c1 + 3) k = M b (c + 3) k) ∧ (∀ k, k < 16 → M' b1 (c1 + 4) k = M b (c + 4) k) ∧ (∀ k, k < 96 → M' b1 (c1 + 5) k = M b (c + 5) k) ∧ (∀ k, k < 8 → M' b1 (c1 + 7) k = M b (c + 7) k) ∧ ∀ k, k < 648 → M' b1 (c1 + 8) k = M b (c + 8) k
theorem xGr_cp {M M' : xr_M} {b c b1 c1 np nq : Nat} {pl : Nat → Nat} {g : Nat → Int32} (C : xCp M M' b c b1 c1) (n1 : np ≤ 8) (n2 : nq ≤ 8) (n3 : ∀ p, p < nq → pl p ≤ 6) (G : xGr M b c np nq pl g) : xGr M' b1 c1 np nq pl g := by
  obtain ⟨g0, g1, g2, g3, g4, g5⟩ := G
  obtain ⟨q0, q1, q2, q3, q4, q5, q6, q7⟩ := C
  refine ⟨q0.trans g0, fun k hk => (q1 k (by omega)).trans (g1 k hk), fun k hk => (q2 k (by omega)).trans (g2 k hk), fun k hk => (q3 k (by omega)).trans (g3 k hk), fun k hk => (q4 k (by omega)).trans (g4 k hk), fun k i hk hi => (q5 _ ?_).trans (g5 k i hk hi)⟩
  have := n3 (k / 2) (by omega)
  omega
theorem xhC_cp {M M' : xr_M} {b c b1 c1 : Nat} {h : Nat → Nat} {s : Nat → Nat → Int32} (C : xCp M M' b c b1 c1) (B : xhB 81 h) (H : xhC (M b (c + 7)) (M b (c + 8)) h s) : xhC (M' b1 (c1 + 7)) (M' b1 (c1 + 8)) h s := by
  obtain ⟨q0, q1, q2, q3, q4, q5, q6, q7⟩ := C
  refine ⟨fun x hx => (q6 x hx).trans (H.1 x hx), fun x k hx hk => (q7 _ ?_).trans (H.2 x k hx hk)⟩
  have := B x hx
  omega
theorem xGr_cg {M : xr_M} {b c np nq : Nat} {pl : Nat → Nat} {g g' : Nat → Int32} (n1 : np ≤ 8) (n2 : nq ≤ 8) (n3 : ∀ p, p < nq → pl p ≤ 6) (e : ∀ j, j < 793 → g' j = g j) (G : xGr M b c np nq pl g) : xGr M b c np nq pl g' := by
  obtain ⟨g0, g1, g2, g3, g4, g5⟩ := G
  refine ⟨g0.trans (e _ (by omega)).symm, fun k hk => (g1 k hk).trans (e _ (by omega)).symm, fun k hk => (g2 k hk).trans (e _ (by omega)).symm, fun k hk => (g3 k hk).trans (e _ (by omega)).symm, fun k hk => (g4 k hk).trans (e _ (by omega)).symm, fun k i hk hi => (g5 k i hk hi).trans (e _ ?_).symm⟩
  have := n3 (k / 2) (by omega)
  omega
theorem xgW_cg {np nq : Nat} {pl : Nat → Nat} {g g' : Nat → Int32} (n2 : nq ≤ 8) (e : ∀ j, j < 793 → g' j = g j) (W : xgW np nq pl g) : xgW np nq pl g' := by
  refine ⟨fun k hk => ?_, fun k i hk hi => ?_⟩
  · unfold gN; rw [e _ (by omega)]; exact W.1 k hk
  · unfold gN; rw [e _ (by omega)]; exact W.2 k i hk hi
theorem xhM_cg {g g' : Nat → Int32} {h : Nat → Nat} {s : Nat → Nat → Int32} (B : xhB 80 h) (e : ∀ j, j < 793 → g' j = g j) (H : xhM g h s) : xhM g' h s := by
  refine ⟨fun x hx => (e _ (by omega)).trans (H.1 x hx), fun x k hx hk => (e _ ?_).trans (H.2 x k hx hk)⟩
  have := B x hx
  omega
section
variable {d : Nat} {w : List Nat} {S : xr_S}
theorem xck8 : xr_cok (nI 0) (nI 0) (nI 8) 8 8 = true := by decide
theorem xck16 : xr_cok (nI 0) (nI 0) (nI 16) 16 16 = true := by decide
theorem xck96 : xr_cok (nI 0) (nI 0) (nI 96) 96 96 = true := by decide
theorem xck648 : xr_cok (nI 0) (nI 0) (nI 648) 648 648 = true := by decide
theorem hc28a {c : Nat} (hc : c = 18 ∨ c = 31) : ∃ M, xr_Call (d + 1) 28 [xP 0 c, xP 0 9] ([], w) S = some (.inl none, ([], w), xs S M) ∧ (∀ k, k < 8 → M 0 (c + 1) k = xm S 0 10 k) ∧ (∀ k, k < 648 → M 0 (c + 2) k = xm S 0 11 k) ∧ ∀ b e, ¬ (b = 0 ∧ (e = c + 1 ∨ e = c + 2)) → M b e = xm S b e := by
  refine ⟨xcp (xcp (xm S) 0 10 0 0 (c + 1) 0 8) 0 11 0 0 (c + 2) 0 648, ?_, fun k hk => ?_, fun k hk => ?_, fun b e h => ?_⟩
  · rw [xe28a d w S c hc, xck8, xck648]
    simp (disch := omega) only [xi_t, xn_k, xn_lt, xn_eq, xn_mul, xn_add, xn_sub, xn_dec, xn_m1, xn_1m, if_pos, if_neg, if_true, if_false, cond_true, cond_false, true_and, and_true, false_and, and_false, xr_cI_s, xr_cV_s, xr_cI_e, xr_cV_e, xm_xs, xs_xs]
  · rw [xcp_r (by omega), xcp_y (by omega), Nat.sub_zero, Nat.zero_add]
  · rw [xcp_y (by omega), xcp_r (by omega), Nat.sub_zero, Nat.zero_add]
  · rw [xcp_r (by omega), xcp_r (by omega)]
theorem hc28a_H {c : Nat} {h : Nat → Nat} {s : Nat → Nat → Int32} (hc : c = 18 ∨ c = 31) (B : xhB 81 h) (H : xhC (xm S 0 10) (xm S 0 11) h s) : ∃ M, xr_Call (d + 1) 28 [xP 0 c, xP 0 9] ([], w) S = some (.inl none, ([], w), xs S M) ∧ xhC (M 0 (c + 1)) (M 0 (c + 2)) h s ∧ ∀ b e, ¬ (b = 0 ∧ (e = c + 1 ∨ e = c + 2)) → M b e = xm S b e := by
  obtain ⟨M, r, q6, q7, F⟩ := hc28a (d := d) (w := w) (S := S) hc
  refine ⟨M, r, ⟨fun x hx => (q6 x hx).trans (H.1 x hx), fun x k hx hk => (q7 _ ?_).trans (H.2 x k hx hk)⟩, F⟩
  have := B x hx
  omega
theorem gc6a : ∃ M, xr_Call (d + 2) 6 [xP 0 12, xP 0 3] ([], w) S = some (.inl none, ([], w), xs S M) ∧ xCp (xm S) M 0 3 0 12 ∧ ∀ b e, ¬ (b = 0 ∧ 12 ≤ e ∧ e ≤ 20) → M b e = xm S b e := by
  obtain ⟨M, r, q6, q7, F⟩ := hc28a (d := d) (w := w) (S := xs S (xcp (xcp (xcp (xcp (xcp (xw (xm S) 0 12 0 (xm S 0 3 0)) 0 4 0 0 13 0 8) 0 5 0 0 14 0 8) 0 6 0 0 15 0 16) 0 7 0 0 16 0 16) 0 8 0 0 17 0 96)) (c := 18) (by omega)
  simp only [xm_xs] at q6 q7 F
  refine ⟨M, ?_, ⟨?_, fun k hk => ?_, fun k hk => ?_, fun k hk => ?_, fun k hk => ?_, fun k hk => ?_, fun k hk => ?_, fun k hk => ?_⟩, fun b e h => ?_⟩
  · rw [xe6a (d + 1) w S, xck8, xck16, xck96]
    simp (disch := omega) only [xi_t, xn_k, xn_lt, xn_eq, xn_mul, xn_add, xn_sub, xn_dec, xn_m1, xn_1m, if_pos, if_neg, if_true, if_false, cond_true, cond_false, true_and, and_true, false_and, and_false, xr_cI_s, xr_cV_s, xr_cI_e, xr_cV_e, xm_xs, xs_xs, r]
  · rw [F 0 12 (by omega)]; rfl
  · rw [F 0 13 (by omega), xcp_r (by omega), xcp_r (by omega), xcp_r (by omega), xcp_r (by omega), xcp_y (by omega), xw_r (by omega), Nat.sub_zero, Nat.zero_add]
  · rw [F 0 14 (by omega), xcp_r (by omega), xcp_r (by omega), xcp_r (by omega), xcp_y (by omega), xcp_r (by omega), xw_r (by omega), Nat.sub_zero, Nat.zero_add]
  · rw [F 0 15 (by omega), xcp_r (by omega), xcp_r (by omega), xcp_y (by omega), xcp_r (by omega), xcp_r (by omega), xw_r (by omega), Nat.sub_zero, Nat.zero_add]
  · rw [F 0 16 (by omega), xcp_r (by omega), xcp_y (by omega), xcp_r (by omega), xcp_r (by omega), xcp_r (by omega), xw_r (by omega), Nat.sub_zero, Nat.zero_add]
  · rw [F 0 17 (by omega), xcp_y (by omega), xcp_r (by omega), xcp_r (by omega), xcp_r (by omega), xcp_r (by omega), xw_r (by omega), Nat.sub_zero, Nat.zero_add]
  · rw [q6 k hk]; rfl
  · rw [q7 k hk]; rfl
  · rw [F b e (by omega), xcp_r (by omega), xcp_r (by omega), xcp_r (by omega), xcp_r (by omega), xcp_r (by omega), xw_r (by omega)]
theorem gc6b {q : Nat} : ∃ M, xr_Call (d + 2) 6 [xP 0 3, xP (q + 1) 1] ([], w) S = some (.inl none, ([], w), xs S M) ∧ xCp (xm S) M (q + 1) 1 0 3 ∧ ∀ b e, ¬ (b = 0 ∧ 3 ≤ e ∧ e ≤ 11) → M b e = xm S b e := by
  refine ⟨xcp (xcp (xcp (xcp (xcp (xcp (xcp (xw (xm S) 0 3 0 (xm S (q + 1) 1 0)) (q + 1) 2 0 0 4 0 8) (q + 1) 3 0 0 5 0 8) (q + 1) 4 0 0 6 0 16) (q + 1) 5 0 0 7 0 16) (q + 1) 6 0 0 8 0 96) (q + 1) 8 0 0 10 0 8) (q + 1) 9 0 0 11 0 648, ?_, ⟨?_, fun k hk => ?_, fun k hk => ?_, fun k hk => ?_, fun k hk => ?_, fun k hk => ?_, fun k hk => ?_, fun k hk => ?_⟩, fun b e h => ?_⟩
  · rw [xe6b (d + 1) w S q, xck8, xck16, xck96]
    simp (disch := omega) only [xi_t, xn_k, xn_lt, xn_eq, xn_mul, xn_add, xn_sub, xn_dec, xn_m1, xn_1m, if_pos, if_neg, if_true, if_false, cond_true, cond_false, true_and, and_true, false_and, and_false, xr_cI_s, xr_cV_s, xr_cI_e, xr_cV_e, xm_xs, xs_xs]
    rw [xe28b d w _ q, xck8, xck648]
    simp (disch := omega) only [xi_t, xn_k, xn_lt, xn_eq, xn_mul, xn_add, xn_sub, xn_dec, xn_m1, xn_1m, if_pos, if_neg, if_true, if_false, cond_true, cond_false, true_and, and_true, false_and, and_false, xr_cI_s, xr_cV_s, xr_cI_e, xr_cV_e, xm_xs, xs_xs]
  · rw [xcp_r (by omega), xcp_r (by omega), xcp_r (by omega), xcp_r (by omega), xcp_r (by omega), xcp_r (by omega), xcp_r (by omega), xw_y (by omega)]
  · rw [xcp_r (by omega), xcp_r (by omega), xcp_r (by omega), xcp_r (by omega), xcp_r (by omega), xcp_r (by omega), xcp_y (by omega), xw_r (by omega), Nat.sub_zero, Nat.zero_add]
  · rw [xcp_r (by omega), xcp_r (by omega), xcp_r (by omega), xcp_r (by omega), xcp_r (by omega), xcp_y (by omega), xcp_r (by omega), xw_r (by omega), Nat.sub_zero, Nat.zero_add]
  · rw [xcp_r (by omega), xcp_r (by omega), xcp_r (by omega), xcp_r (by omega), xcp_y (by omega), xcp_r (by omega), xcp_r (by omega), xw_r (by omega), Nat.sub_zero, Nat.zero_add]
  · rw [xcp_r (by omega), xcp_r (by omega), xcp_r (by omega), xcp_y (by omega), xcp_r (by omega), xcp_r (by omega), xcp_r (by omega), xw_r (by omega), Nat.sub_zero, Nat.zero_add]
  · rw [xcp_r (by omega), xcp_r (by omega), xcp_y (by omega), xcp_r (by omega), xcp_r (by omega), xcp_r (by omega), xcp_r (by omega), xw_r (by omega), Nat.sub_zero, Nat.zero_add]
  · rw [xcp_r (by omega), xcp_y (by omega), xcp_r (by omega), xcp_r (by omega), xcp_r (by omega), xcp_r (by omega), xcp_r (by omega), xw_r (by omega), Nat.sub_zero, Nat.zero_add]
  · rw [xcp_y (by omega), xcp_r (by omega), xcp_r (by omega), xcp_r (by omega), xcp_r (by omega), xcp_r (by omega), xcp_r (by omega), xw_r (by omega), Nat.sub_zero, Nat.zero_add]
  · rw [xcp_r (by omega), xcp_r (by omega), xcp_r (by omega), xcp_r (by omega), xcp_r (by omega), xcp_r (by omega), xcp_r (by omega), xw_r (by omega)]
theorem gc6c {q : Nat} : ∃ M, xr_Call (d + 2) 6 [xP (q + 1) 1, xP 0 3] ([], w) S = some (.inl none, ([], w), xs S M) ∧ xCp (xm S) M 0 3 (q + 1) 1 ∧ ∀ b e, ¬ (b = q + 1 ∧ 1 ≤ e ∧ e ≤ 9) → M b e = xm S b e := by
  refine ⟨xcp (xcp (xcp (xcp (xcp (xcp (xcp (xw (xm S) (q + 1) 1 0 (xm S 0 3 0)) 0 4 0 (q + 1) 2 0 8) 0 5 0 (q + 1) 3 0 8) 0 6 0 (q + 1) 4 0 16) 0 7 0 (q + 1) 5 0 16) 0 8 0 (q + 1) 6 0 96) 0 10 0 (q + 1) 8 0 8) 0 11 0 (q + 1) 9 0 648, ?_, ⟨?_, fun k hk => ?_, fun k hk => ?_, fun k hk => ?_, fun k hk => ?_, fun k hk => ?_, fun k hk => ?_, fun k hk => ?_⟩, fun b e h => ?_⟩
  · rw [xe6c (d + 1) w S q, xck8, xck16, xck96]
    simp (disch := omega) only [xi_t, xn_k, xn_lt, xn_eq, xn_mul, xn_add, xn_sub, xn_dec, xn_m1, xn_1m, if_pos, if_neg, if_true, if_false, cond_true, cond_false, true_and, and_true, false_and, and_false, xr_cI_s, xr_cV_s, xr_cI_e, xr_cV_e, xm_xs, xs_xs]
    rw [xe28c d w _ q, xck8, xck648]
    simp (disch := omega) only [xi_t, xn_k, xn_lt, xn_eq, xn_mul, xn_add, xn_sub, xn_dec, xn_m1, xn_1m, if_pos, if_neg, if_true, if_false, cond_true, cond_false, true_and, and_true, false_and, and_false, xr_cI_s, xr_cV_s, xr_cI_e, xr_cV_e, xm_xs, xs_xs]
  · rw [xcp_r (by omega), xcp_r (by omega), xcp_r (by omega), xcp_r (by omega), xcp_r (by omega), xcp_r (by omega), xcp_r (by omega), xw_y (by omega)]
  · rw [xcp_r (by omega), xcp_r (by omega), xcp_r (by omega), xcp_r (by omega), xcp_r (by omega), xcp_r (by omega), xcp_y (by omega), xw_r (by omega), Nat.sub_zero, Nat.zero_add]
  · rw [xcp_r (by omega), xcp_r (by omega), xcp_r (by omega), xcp_r (by omega), xcp_r (by omega), xcp_y (by omega), xcp_r (by omega), xw_r (by omega), Nat.sub_zero, Nat.zero_add]
  · rw [xcp_r (by omega), xcp_r (by omega), xcp_r (by omega), xcp_r (by omega), xcp_y (by omega), xcp_r (by omega), xcp_r (by omega), xw_r (by omega), Nat.sub_zero, Nat.zero_add]
  · rw [xcp_r (by omega), xcp_r (by omega), xcp_r (by omega), xcp_y (by omega), xcp_r (by omega), xcp_r (by omega), xcp_r (by omega), xw_r (by omega), Nat.sub_zero, Nat.zero_add]
  · rw [xcp_r (by omega), xcp_r (by omega), xcp_y (by omega), xcp_r (by omega), xcp_r (by omega), xcp_r (by omega), xcp_r (by omega), xw_r (by omega), Nat.sub_zero, Nat.zero_add]
  · rw [xcp_r (by omega), xcp_y (by omega), xcp_r (by omega), xcp_r (by omega), xcp_r (by omega), xcp_r (by omega), xcp_r (by omega), xw_r (by omega), Nat.sub_zero, Nat.zero_add]
  · rw [xcp_y (by omega), xcp_r (by omega), xcp_r (by omega), xcp_r (by omega), xcp_r (by omega), xcp_r (by omega), xcp_r (by omega), xw_r (by omega), Nat.sub_zero, Nat.zero_add]
  · rw [xcp_r (by omega), xcp_r (by omega), xcp_r (by omega), xcp_r (by omega), xcp_r (by omega), xcp_r (by omega), xcp_r (by omega), xw_r (by omega)]
/-- the first n places of a row copied -/
def xcpn (f g : Nat → Int32) (n : Nat) : Nat → Int32 := fun j => if j < n then g j else f j
theorem xcpn_s (f g : Nat → Int32) (n : Nat) : xu (xcpn f g n) n (g n) = xcpn f g (n + 1) := by
  funext j
  unfold xu xcpn
  by_cases q : j = n
  · rw [if_pos q, if_pos (by omega), q]
  · rw [if_neg q]
    by_cases q2 : j < n
    · rw [if_pos q2, if_pos (by omega)]
    · rw [if_neg q2, if_neg (by omega)]
theorem gm177a : ∃ M, xr_Call (d + 1) 177 [xP 0 89, xP 0 90] ([], w) S = some (.inl none, ([], w), xs S M) ∧ (∀ j, j < 793 → M 0 90 j = xm S 0 89 j) ∧ ∀ b e, ¬ (b = 0 ∧ e = 90) → M b e = xm S b e := by
  have lp : ∀ n, n ≤ 793 → ∃ M, xr_Run d 177 2 [xP 0 89, xP 0 90, xI (nI 0)] [] ([], w) S = xr_Run d 177 2 [xP 0 89, xP 0 90, xI (nI n)] [] ([], w) (xs S M) ∧ M 0 90 = xcpn (xm S 0 90) (xm S 0 89) n ∧ ∀ b e, ¬ (b = 0 ∧ e = 90) → M b e = xm S b e := by
    intro n
    induction n with
    | zero => intro _; exact ⟨xm S, by rw [xs_xm], by funext j; simp [xcpn], fun _ _ _ => rfl⟩
    | succ n ih =>
      intro hn
      obtain ⟨M, r, e, F⟩ := ih (by omega)
      refine ⟨xw M 0 90 n (xm S 0 89 n), ?_, ?_, fun b e h => ?_⟩
      · rw [r]
        refine (xg177a_2 _ _ _ _).trans ?_
        have h9 : M 0 89 n = xm S 0 89 n := by rw [F 0 89 (by omega)]
        simp (disch := omega) only [xi_t, xn_k, xn_lt, xn_eq, xn_mul, xn_add, xn_sub, xn_dec, xn_m1, xn_1m, if_pos, if_neg, if_true, if_false, cond_true, cond_false, true_and, and_true, false_and, and_false, xr_cI_s, xr_cV_s, xr_cI_e, xr_cV_e, xm_xs, xs_xs, h9]
      · rw [xw_u, e, xcpn_s]
      · rw [xw_r (by omega)]; exact F b e h
  obtain ⟨M, r, e, F⟩ := lp 793 (Nat.le_refl _)
  refine ⟨M, ?_, fun j hj => by rw [e]; exact if_pos hj, F⟩
  rw [xe177a, r]
  refine (xg177a_2 _ _ _ _).trans ?_
  simp (disch := omega) only [xi_t, xn_k, xn_lt, xn_eq, xn_mul, xn_add, xn_sub, xn_dec, xn_m1, xn_1m, if_pos, if_neg, if_true, if_false, cond_true, cond_false, true_and, and_true, false_and, and_false, xr_cI_s, xr_cV_s, xr_cI_e, xr_cV_e, xm_xs, xs_xs]
theorem gm177b {q : Nat} : ∃ M, xr_Call (d + 1) 177 [xP 0 89, xP q 1091] ([], w) S = some (.inl none, ([], w), xs S M) ∧ (∀ j, j < 793 → M q 1091 j = xm S 0 89 j) ∧ ∀ b e, ¬ (b = q ∧ e = 1091) → M b e = xm S b e := by
  have lp : ∀ n, n ≤ 793 → ∃ M, xr_Run d 177 2 [xP 0 89, xP q 1091, xI (nI 0)] [] ([], w) S = xr_Run d 177 2 [xP 0 89, xP q 1091, xI (nI n)] [] ([], w) (xs S M) ∧ M q 1091 = xcpn (xm S q 1091) (xm S 0 89) n ∧ ∀ b e, ¬ (b = q ∧ e = 1091) → M b e = xm S b e := by
    intro n
    induction n with
    | zero => intro _; exact ⟨xm S, by rw [xs_xm], by funext j; simp [xcpn], fun _ _ _ => rfl⟩
    | succ n ih =>
      intro hn
      obtain ⟨M, r, e, F⟩ := ih (by omega)
      refine ⟨xw M q 1091 n (xm S 0 89 n), ?_, ?_, fun b e h => ?_⟩
      · rw [r]
        refine (xg177b_2 _ _ _ _ _).trans ?_
        have h9 : M 0 89 n = xm S 0 89 n := by rw [F 0 89 (by omega)]
        simp (disch := omega) only [xi_t, xn_k, xn_lt, xn_eq, xn_mul, xn_add, xn_sub, xn_dec, xn_m1, xn_1m, if_pos, if_neg, if_true, if_false, cond_true, cond_false, true_and, and_true, false_and, and_false, xr_cI_s, xr_cV_s, xr_cI_e, xr_cV_e, xm_xs, xs_xs, h9]
      · rw [xw_u, e, xcpn_s]
      · rw [xw_r (by omega)]; exact F b e h
  obtain ⟨M, r, e, F⟩ := lp 793 (Nat.le_refl _)
  refine ⟨M, ?_, fun j hj => by rw [e]; exact if_pos hj, F⟩
  rw [xe177b, r]
  refine (xg177b_2 _ _ _ _ _).trans ?_
  simp (disch := omega) only [xi_t, xn_k, xn_lt, xn_eq, xn_mul, xn_add, xn_sub, xn_dec, xn_m1, xn_1m, if_pos, if_neg, if_true, if_false, cond_true, cond_false, true_and, and_true, false_and, and_false, xr_cI_s, xr_cV_s, xr_cI_e, xr_cV_e, xm_xs, xs_xs]
theorem gm177c {q : Nat} : ∃ M, xr_Call (d + 1) 177 [xP q 1091, xP 0 89] ([], w) S = some (.inl none, ([], w), xs S M) ∧ (∀ j, j < 793 → M 0 89 j = xm S q 1091 j) ∧ ∀ b e, ¬ (b = 0 ∧ e = 89) → M b e = xm S b e := by
  have lp : ∀ n, n ≤ 793 → ∃ M, xr_Run d 177 2 [xP q 1091, xP 0 89, xI (nI 0)] [] ([], w) S = xr_Run d 177 2 [xP q 1091, xP 0 89, xI (nI n)] [] ([], w) (xs S M) ∧ M 0 89 = xcpn (xm S 0 89) (xm S q 1091) n ∧ ∀ b e, ¬ (b = 0 ∧ e = 89) → M b e = xm S b e := by
    intro n
    induction n with
    | zero => intro _; exact ⟨xm S, by rw [xs_xm], by funext j; simp [xcpn], fun _ _ _ => rfl⟩
    | succ n ih =>
      intro hn
      obtain ⟨M, r, e, F⟩ := ih (by omega)
      refine ⟨xw M 0 89 n (xm S q 1091 n), ?_, ?_, fun b e h => ?_⟩
      · rw [r]
        refine (xg177c_2 _ _ _ _ _).trans ?_
        have h9 : M q 1091 n = xm S q 1091 n := by rw [F q 1091 (by omega)]
        simp (disch := omega) only [xi_t, xn_k, xn_lt, xn_eq, xn_mul, xn_add, xn_sub, xn_dec, xn_m1, xn_1m, if_pos, if_neg, if_true, if_false, cond_true, cond_false, true_and, and_true, false_and, and_false, xr_cI_s, xr_cV_s, xr_cI_e, xr_cV_e, xm_xs, xs_xs, h9]
      · rw [xw_u, e, xcpn_s]
      · rw [xw_r (by omega)]; exact F b e h
  obtain ⟨M, r, e, F⟩ := lp 793 (Nat.le_refl _)
  refine ⟨M, ?_, fun j hj => by rw [e]; exact if_pos hj, F⟩
  rw [xe177c, r]
  refine (xg177c_2 _ _ _ _ _).trans ?_
  simp (disch := omega) only [xi_t, xn_k, xn_lt, xn_eq, xn_mul, xn_add, xn_sub, xn_dec, xn_m1, xn_1m, if_pos, if_neg, if_true, if_false, cond_true, cond_false, true_and, and_true, false_and, and_false, xr_cI_s, xr_cV_s, xr_cI_e, xr_cV_e, xm_xs, xs_xs]
end
