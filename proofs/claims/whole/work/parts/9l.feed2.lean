/-! THE FEED: the calls -/
def fC (M M' : xr_M) (L : Nat) (f : Nat → Nat) (m : Nat) : Prop := M' 0 1 1 = nI (L + m) ∧ (∀ b e, ¬ (b = 0 ∧ (e = 1 ∨ e = 2)) → M' b e = M b e) ∧ (∀ k, ¬ k = 1 → M' 0 1 k = M 0 1 k) ∧ (∀ j, j < m → M' 0 2 (L + j) = nI (f j)) ∧ ∀ k, k < L → M' 0 2 k = M 0 2 k
def fM (M M' : xr_M) (L : Nat) (f : Nat → Nat) (m : Nat) : Prop := M' 0 69 1 = nI (L + m) ∧ (∀ b e, ¬ (b = 0 ∧ (e = 69 ∨ e = 70)) → M' b e = M b e) ∧ (∀ k, ¬ k = 1 → M' 0 69 k = M 0 69 k) ∧ (∀ j, j < m → M' 0 70 (L + j) = nI (f j)) ∧ ∀ k, k < L → M' 0 70 k = M 0 70 k
section
variable {d : Nat} {w : List Nat} {L : Nat}
theorem tc80f {S : xr_S} {M : xr_M} {f : Nat → Nat} {m : Nat} (v : Int32) (hL : L + m + 4 ≤ 600) (hf : ∀ j, j < 4 → f (m + j) = fby v (24 - 8 * j)) (H : fC (xm S) M L f m) : ∃ M', xr_Call (d + 1) 80 [xP 0 1, xI v] ([], w) (xs S M) = some (.inl none, ([], w), xs S M') ∧ fC (xm S) M' L f (m + 4) := by
  obtain ⟨h1, h2, h3, h4, h5⟩ := H
  obtain ⟨M', q, g1, g2, g3, g4, g5⟩ := tc80 (d := d) (w := w) (S := xs S M) (L := L + m) v hL h1
  rw [xs_xs] at q
  rw [xm_xs] at g2 g3 g5
  refine ⟨M', q, by rw [g1, Nat.add_assoc], fun b e h => by rw [g2 b e h]; exact h2 b e h, fun k hk => by rw [g3 k hk]; exact h3 k hk, fun j hj => ?_, fun k hk => by rw [g5 k (by omega)]; exact h5 k hk⟩
  by_cases q2 : j < m
  · rw [g5 _ (by omega)]; exact h4 j q2
  · have e : L + j = L + m + (j - m) := by omega
    have e2 := hf (j - m) (by omega)
    rw [show m + (j - m) = j by omega] at e2
    rw [e, g4 (j - m) (by omega), e2]
theorem tc100y {S : xr_S} (a1 a2 a3 a4 a5 : Int32) (hL : L + 20 ≤ 600) (e : xm S 0 1 1 = nI L) : ∃ M, xr_Call (d + 60) 100 [xP 0 0, xI a1, xI a2, xI a3, xI a4, xI a5] xMd S = some (.inl (some (nI (L + 20))), xMd, xs S M) ∧ fC (xm S) M L (fbs a1 a2 a3 a4 a5) 20 := by
  have H0 : fC (xm S) (xm S) L (fbs a1 a2 a3 a4 a5) 0 := ⟨e, fun _ _ _ => rfl, fun _ _ => rfl, fun j hj => by omega, fun _ _ => rfl⟩
  have hf : ∀ i v, i < 5 → (if 4 * i < 4 then a1 else if 4 * i < 8 then a2 else if 4 * i < 12 then a3 else if 4 * i < 16 then a4 else a5) = v → ∀ j, j < 4 → fbs a1 a2 a3 a4 a5 (4 * i + j) = fby v (24 - 8 * j) := fun i v hi hv j hj => by
    unfold fbs
    rw [show (4 * i + j) % 4 = j by omega, ← hv]
    have : i = 0 ∨ i = 1 ∨ i = 2 ∨ i = 3 ∨ i = 4 := by omega
    rcases this with rfl | rfl | rfl | rfl | rfl <;> simp (disch := omega) only [if_pos, if_neg]
  obtain ⟨M1, q1, H1⟩ := tc80f (d := d + 58) (w := [35, 44, 53, 58, 63, 66]) (S := S) (m := 4 * 0) a1 (by omega) (hf 0 a1 (by omega) rfl) H0
  obtain ⟨M2, q2, H2⟩ := tc80f (d := d + 58) (w := [35, 44, 53, 58, 63, 66]) (S := S) (m := 4 * 1) a2 (by omega) (hf 1 a2 (by omega) rfl) H1
  obtain ⟨M3, q3, H3⟩ := tc80f (d := d + 58) (w := [35, 44, 53, 58, 63, 66]) (S := S) (m := 4 * 2) a3 (by omega) (hf 2 a3 (by omega) rfl) H2
  obtain ⟨M4, q4, H4⟩ := tc80f (d := d + 58) (w := [35, 44, 53, 58, 63, 66]) (S := S) (m := 4 * 3) a4 (by omega) (hf 3 a4 (by omega) rfl) H3
  obtain ⟨M5, q5, H5⟩ := tc80f (d := d + 58) (w := [35, 44, 53, 58, 63, 66]) (S := S) (m := 4 * 4) a5 (by omega) (hf 4 a5 (by omega) rfl) H4
  refine ⟨M5, ?_, H5⟩
  rw [xs_xm] at q1
  rw [xe100, e, xn_add L 20, if_neg (by rw [xn_lt (by omega) (by omega)]; omega), show xr_Call (d + 59) 80 [xP 0 1, xI a1] xMd S = _ from q1, xr_cV_s, show xr_Call (d + 59) 80 [xP 0 1, xI a2] xMd (xs S M1) = _ from q2, xr_cV_s, show xr_Call (d + 59) 80 [xP 0 1, xI a3] xMd (xs S M2) = _ from q3, xr_cV_s, show xr_Call (d + 59) 80 [xP 0 1, xI a4] xMd (xs S M3) = _ from q4, xr_cV_s, show xr_Call (d + 59) 80 [xP 0 1, xI a5] xMd (xs S M4) = _ from q5, xr_cV_s, xm_xs, H5.1]
theorem tc100n {S : xr_S} (a1 a2 a3 a4 a5 : Int32) (hL : ¬ L + 20 ≤ 600) (hL2 : L ≤ 600) (e : xm S 0 1 1 = nI L) : xr_Call (d + 60) 100 [xP 0 0, xI a1, xI a2, xI a3, xI a4, xI a5] xMd S = some (.inl (some (-1)), xMd, S) := by
  rw [xe100, e, xn_add L 20, if_pos (by rw [xn_lt (by omega) (by omega)]; omega)]
theorem fsh (j : Nat) (hj : j < 20) : nI 24 - (nI 8 * (nI j - nI j / nI 4 * nI 4)) = nI (24 - 8 * (j % 4)) := by
  have : ∀ j : Fin 20, nI 24 - (nI 8 * (nI j.val - nI j.val / nI 4 * nI 4)) = nI (24 - 8 * (j.val % 4)) := by decide +kernel
  exact this ⟨j, hj⟩
theorem tm156y {S : xr_S} (a1 a2 a3 a4 a5 : Int32) (hL : L + 20 ≤ 600) (e : xm S 0 69 1 = nI L) : ∃ M, xr_Call (d + 60) 156 [xP 0 69, xI a1, xI a2, xI a3, xI a4, xI a5] ([], w) S = some (.inl (some (nI (L + 20))), ([], w), xs S M) ∧ fM (xw (xm S) 0 69 0 (nI 0)) M L (fbs a1 a2 a3 a4 a5) 20 := by
  have n4 : ¬ nI 4 = 0 := by decide
  have lp : ∀ m, m ≤ 20 → ∃ M v, xr_Run (d + 59) 156 23 [xP 0 69, xI a1, xI a2, xI a3, xI a4, xI a5, xI (nI 0), xU] [] ([], w) (xs S (xw (xm S) 0 69 0 (nI 0))) = xr_Run (d + 59) 156 23 [xP 0 69, xI a1, xI a2, xI a3, xI a4, xI a5, xI (nI m), v] [] ([], w) (xs S M) ∧ fM (xw (xm S) 0 69 0 (nI 0)) M L (fbs a1 a2 a3 a4 a5) m := by
    intro m
    induction m with
    | zero => intro _; exact ⟨_, xU, rfl, by rw [xw_n (by omega)]; exact e, fun _ _ _ => rfl, fun _ _ => rfl, fun j hj => by omega, fun _ _ => rfl⟩
    | succ m ih =>
      intro hm
      obtain ⟨M, v, q, h1, h2, h3, h4, h5⟩ := ih (by omega)
      have e9 : ∀ x, xw M 0 70 (L + m) x 0 69 1 = nI (L + m) := fun x => by rw [xw_n (by omega)]; exact h1
      refine ⟨xw (xw M 0 70 (L + m) (nI (fbs a1 a2 a3 a4 a5 m))) 0 69 1 (nI (L + (m + 1))), xI (if m < 4 then a1 else if m < 8 then a2 else if m < 12 then a3 else if m < 16 then a4 else a5), ?_, xw_y (by omega), fun b c h => ?_, fun k hk => ?_, fun j hj => ?_, fun k hk => ?_⟩
      · rw [q]
        refine (xg156_23 _ _ _ _ _ _ _ _ _ _).trans ?_
        rw [if_pos (by rw [xn_lt (by omega) (by omega)]; omega), fsh m (by omega), fby_m, fby_m, fby_m, fby_m, fby_m]
        unfold fbs
        by_cases c1 : m < 4
        · simp (disch := omega) only [xi_t, xn_k, xn_lt, xn_eq, xn_mul, xn_add, xn_sub, xn_dec, xn_m1, xn_1m, if_pos, if_neg, if_true, if_false, cond_true, cond_false, true_and, and_true, false_and, and_false, xr_cI_s, xr_cV_s, xr_cI_e, xr_cV_e, xm_xs, xs_xs, h1, e9, n4, Nat.add_assoc, not_false_eq_true]
        · by_cases c2 : m < 8
          · simp (disch := omega) only [xi_t, xn_k, xn_lt, xn_eq, xn_mul, xn_add, xn_sub, xn_dec, xn_m1, xn_1m, if_pos, if_neg, if_true, if_false, cond_true, cond_false, true_and, and_true, false_and, and_false, xr_cI_s, xr_cV_s, xr_cI_e, xr_cV_e, xm_xs, xs_xs, h1, e9, n4, Nat.add_assoc, not_false_eq_true]
          · by_cases c3 : m < 12
            · simp (disch := omega) only [xi_t, xn_k, xn_lt, xn_eq, xn_mul, xn_add, xn_sub, xn_dec, xn_m1, xn_1m, if_pos, if_neg, if_true, if_false, cond_true, cond_false, true_and, and_true, false_and, and_false, xr_cI_s, xr_cV_s, xr_cI_e, xr_cV_e, xm_xs, xs_xs, h1, e9, n4, Nat.add_assoc, not_false_eq_true]
            · by_cases c4 : m < 16
              · simp (disch := omega) only [xi_t, xn_k, xn_lt, xn_eq, xn_mul, xn_add, xn_sub, xn_dec, xn_m1, xn_1m, if_pos, if_neg, if_true, if_false, cond_true, cond_false, true_and, and_true, false_and, and_false, xr_cI_s, xr_cV_s, xr_cI_e, xr_cV_e, xm_xs, xs_xs, h1, e9, n4, Nat.add_assoc, not_false_eq_true]
              · simp (disch := omega) only [xi_t, xn_k, xn_lt, xn_eq, xn_mul, xn_add, xn_sub, xn_dec, xn_m1, xn_1m, if_pos, if_neg, if_true, if_false, cond_true, cond_false, true_and, and_true, false_and, and_false, xr_cI_s, xr_cV_s, xr_cI_e, xr_cV_e, xm_xs, xs_xs, h1, e9, n4, Nat.add_assoc, not_false_eq_true]
      · rw [xw_r (by omega), xw_r (by omega)]; exact h2 b c h
      · rw [xw_n (by omega), xw_n (by omega)]; exact h3 k hk
      · rw [xw_n (by omega)]
        by_cases q : j = m
        · subst q; rw [xw_y (by omega)]
        · rw [xw_n (by omega)]; exact h4 j (by omega)
      · rw [xw_n (by omega), xw_n (by omega)]; exact h5 k hk
  obtain ⟨M, v, q, H⟩ := lp 20 (Nat.le_refl _)
  refine ⟨M, ?_, H⟩
  rw [xe156, xw_n (by omega), e, xn_add L 20, if_neg (by rw [xn_lt (by omega) (by omega)]; omega), q]
  refine (xg156_23 _ _ _ _ _ _ _ _ _ _).trans ?_
  rw [if_neg (by rw [xn_lt (by omega) (by omega)]; omega), xm_xs, H.1]
theorem tm156n {S : xr_S} (a1 a2 a3 a4 a5 : Int32) (hL : ¬ L + 20 ≤ 600) (hL2 : L ≤ 600) (e : xm S 0 69 1 = nI L) : xr_Call (d + 60) 156 [xP 0 69, xI a1, xI a2, xI a3, xI a4, xI a5] ([], w) S = some (.inl (some (-1)), ([], w), xs S (xw (xm S) 0 69 0 (nI 0))) := by
  rw [xe156, xw_n (by omega), e, xn_add L 20, if_pos (by rw [xn_lt (by omega) (by omega)]; omega)]
theorem fup_B {M M' : xr_M} {tb : Nat → Nat} {a1 a2 a3 a4 a5 : Int32} (hL : L + 20 ≤ 600) (B : tB M tb L) (h1 : M' 0 1 1 = nI (L + 20)) (h2 : ∀ j, j < 20 → M' 0 2 (L + j) = nI (fbs a1 a2 a3 a4 a5 j)) (h3 : ∀ k, k < L → M' 0 2 k = M 0 2 k) (g1 : M' 0 69 1 = nI (L + 20)) (g2 : ∀ j, j < 20 → M' 0 70 (L + j) = nI (fbs a1 a2 a3 a4 a5 j)) (g3 : ∀ k, k < L → M' 0 70 k = M 0 70 k) : tB M' (fup tb L (fbs a1 a2 a3 a4 a5) 20) (L + 20) := by
  obtain ⟨⟨B1, B2⟩, ⟨B3, B4⟩, B5, B6⟩ := B
  refine ⟨⟨hL, fun k => ?_⟩, ⟨h1, fun k hk => ?_⟩, g1, fun k hk => ?_⟩
  · unfold fup
    split
    · exact fby_le _ _
    · exact B2 k
  · unfold fup
    by_cases q : L ≤ k
    · rw [if_pos ⟨q, hk⟩, ← h2 (k - L) (by omega), show L + (k - L) = k by omega]
    · rw [if_neg (by omega), h3 k (by omega)]; exact B4 k (by omega)
  · unfold fup
    by_cases q : L ≤ k
    · rw [if_pos ⟨q, hk⟩, ← g2 (k - L) (by omega), show L + (k - L) = k by omega]
    · rw [if_neg (by omega), g3 k (by omega)]; exact B6 k (by omega)
end
