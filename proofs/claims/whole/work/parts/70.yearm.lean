/-! A YEAR: the model's yearEnds -/
section
variable {d : Nat} {w : List Nat} {S : xr_S} {c : Nat} {np nq ch st : Nat} {du pl : Nat → Nat} {dy : Nat → Int32} {dp : Nat → Nat → Nat} {g : Nat → Int32} {sz : Nat} {kd : Nat → Nat} {gv : Nat → Int32}
theorem gm209i (hc : c = 89 ∨ c = 90) (V : xLv sz kd) (W : xgW np nq pl g) {p h : Nat} (hpq : p < nq) (hh : h < 2) : ∀ (n i : Nat) (S : xr_S), i + n = pl p → xPl (xm S) np nq ch st du pl dy dp → xLm (xm S) sz kd gv → xm S 0 c = gwi sz kd gv g (2 * p + h) (bI (dy p < g 144)) i → ∃ M, xr_Run (d + 4) 209 43 [xP 0 69, xP 0 c, xI (nI p), xI (nI h), xI (nI (2 * p + h)), xI (nI (xsN (gcut sz kd gv g (2 * p + h) (bI (dy p < g 144))) i)), xI (nI i)] [] ([], w) S = xr_Run (d + 4) 209 43 [xP 0 69, xP 0 c, xI (nI p), xI (nI h), xI (nI (2 * p + h)), xI (nI (xsN (gcut sz kd gv g (2 * p + h) (bI (dy p < g 144))) (pl p))), xI (nI (pl p))] [] ([], w) (xs S M) ∧ M 0 c = gwi sz kd gv g (2 * p + h) (bI (dy p < g 144)) (pl p) ∧ ∀ b e, ¬ (b = 0 ∧ (e = c ∨ e = 86 ∨ e = 87)) → M b e = xm S b e := by
  intro n
  induction n with
  | zero =>
    intro i S hi P L G
    rw [show i = pl p by omega] at G ⊢
    exact ⟨xm S, by rw [xs_xm], G, fun _ _ _ => rfl⟩
  | succ n ih =>
    intro i S hi P L G
    have P' := P
    obtain ⟨⟨p0, p1, p2, p3⟩, ⟨m0, m1, m2, m3⟩, ⟨b0, b1, b2, b3, b4⟩, hp, hd⟩ := P
    obtain ⟨c39, c40, c41, e2, e3, e4, l1, l2, l3⟩ := hp p hpq
    obtain ⟨w1, w2, _⟩ := W.2 (2 * p + h) i (by omega) (by omega)
    have a1 : xm S 0 c (48 + 6 * (2 * p + h) + i) = nI (gN g (48 + 6 * (2 * p + h) + i)) := by
      rw [G, gwi_o _ _ (by omega)]; exact w1
    have a2 : xm S 0 c 144 = g 144 := by rw [G, gwi_o _ _ (by omega)]
    have a3 : xm S 0 c (32 + (2 * p + h)) = g (32 + (2 * p + h)) := by rw [G, gwi_o _ _ (by omega)]
    have eh : (2 * p + h) % 2 = h := by omega
    obtain ⟨M1, e1, F1⟩ := lm207 (d := d) (w := w) V L (a := gN g (48 + 6 * (2 * p + h) + i)) (by omega) (nI i) (nI h) (g 144) (g (32 + (2 * p + h))) (bI (dy p < g 144))
    have hle := lwear_le (sz := sz) (kd := kd) (gv := gv) (a := gN g (48 + 6 * (2 * p + h) + i)) (b := nI i) (c := nI h) (d := g 144) (e := g (32 + (2 * p + h))) (f := bI (dy p < g 144)) (by omega)
    have ec : gN g (48 + 6 * (2 * p + h) + i) - lwear sz kd gv (gN g (48 + 6 * (2 * p + h) + i)) (nI i) (nI h) (g 144) (g (32 + (2 * p + h))) (bI (dy p < g 144)) = gcut sz kd gv g (2 * p + h) (bI (dy p < g 144)) i := by unfold gcut; rw [eh]
    have F2 : ∀ b e, ¬ (b = 0 ∧ (e = c ∨ e = 86 ∨ e = 87)) → xw M1 0 c (48 + 6 * (2 * p + h) + i) (nI (gcut sz kd gv g (2 * p + h) (bI (dy p < g 144)) i)) b e = xm S b e := fun b e q => by
      rw [xw_r (by omega)]; exact F1 b e (by omega)
    have G2 : xw M1 0 c (48 + 6 * (2 * p + h) + i) (nI (gcut sz kd gv g (2 * p + h) (bI (dy p < g 144)) i)) 0 c = gwi sz kd gv g (2 * p + h) (bI (dy p < g 144)) (i + 1) := by
      rw [xw_u, F1 0 c (by omega), G]; rfl
    obtain ⟨M3, r3, G3, F3⟩ := ih (i + 1) (xs S (xw M1 0 c (48 + 6 * (2 * p + h) + i) (nI (gcut sz kd gv g (2 * p + h) (bI (dy p < g 144)) i)))) (by omega) (xPl_fr (fun b e he => F2 b e (by omega)) P') (xLm_fr (fun k => F2 k 1082 (by omega)) (congrFun (F2 0 69 (by omega)) 21) L) G2
    refine ⟨M3, ?_, G3, fun b e q => ?_⟩
    · rw [xs_xs] at r3
      rw [← r3]
      refine (xg209_43 _ _ _ _ hc _ _ _ _ _).trans ?_
      by_cases q : dy p < g 144
      · have eb : bI (dy p < g 144) = nI 1 := if_pos q
        rw [eb] at e1 ec hle ⊢
        simp (disch := omega) only [xe201 (d + 3) w _ c hc, xi_t, xn_k, xn_lt, xn_eq, xn_mul, xn_add, xn_sub, xn_dec, xn_m1, xn_1m, if_pos, if_neg, if_true, if_false, cond_true, cond_false, true_and, and_true, false_and, and_false, xr_cI_s, xr_cV_s, xr_cI_e, xr_cV_e, xm_xs, xs_xs, e4, e3, a1, a2, a3, q, if_true, e1]
        rw [ec]
        simp (disch := omega) only [xw_y, xw_n, xu_y, xu_n, if_pos, if_neg, if_true, if_false, true_and, and_true, false_and, and_false, xn_add, xsN]
      · have eb : bI (dy p < g 144) = nI 0 := if_neg q
        rw [eb] at e1 ec hle ⊢
        simp (disch := omega) only [xe201 (d + 3) w _ c hc, xi_t, xn_k, xn_lt, xn_eq, xn_mul, xn_add, xn_sub, xn_dec, xn_m1, xn_1m, if_pos, if_neg, if_true, if_false, cond_true, cond_false, true_and, and_true, false_and, and_false, xr_cI_s, xr_cV_s, xr_cI_e, xr_cV_e, xm_xs, xs_xs, e4, e3, a1, a2, a3, q, if_false, e1]
        rw [ec]
        simp (disch := omega) only [xw_y, xw_n, xu_y, xu_n, if_pos, if_neg, if_true, if_false, true_and, and_true, false_and, and_false, xn_add, xsN]
    · rw [F3 b e q]; exact F2 b e q
theorem gwhalf_y {p n half j : Nat} {due : Int32} (hn : n ≤ 6) (h : ¬ (48 + 6 * half ≤ j ∧ j < 54 + 6 * half)) (h1 : j ≠ 32 + half) (h2 : j ≠ 8 + p) : gwhalf sz kd gv g p n half due j = g j := gwhalf_o hn ⟨h, h1, h2⟩
theorem gm209h (hc : c = 89 ∨ c = 90) (V : xLv sz kd) {p h : Nat} (W : xgW np nq pl g) (hpq : p < nq) (hh : h < 2) (P : xPl (xm S) np nq ch st du pl dy dp) (L : xLm (xm S) sz kd gv) (G : xm S 0 c = g) (u1 u2 u3 : xr_V) : ∃ M v1 v2 v3, xr_Run (d + 4) 209 25 [xP 0 69, xP 0 c, xI (nI p), xI (nI h), u1, u2, u3] [] ([], w) S = xr_Run (d + 4) 209 25 [xP 0 69, xP 0 c, xI (nI p), xI (nI (h + 1)), v1, v2, v3] [] ([], w) (xs S M) ∧ M 0 c = gwhalf sz kd gv g p (pl p) (2 * p + h) (bI (dy p < g 144)) ∧ ∀ b e, ¬ (b = 0 ∧ (e = c ∨ e = 86 ∨ e = 87)) → M b e = xm S b e := by
  obtain ⟨M, r, G1, F⟩ := gm209i (d := d) (w := w) hc V W hpq hh (pl p) 0 S (by omega) P L G
  have b1 := P.2.2.1.2.1
  obtain ⟨c39, c40, c41, e2, e3, e4, l1, l2, l3⟩ := P.2.2.2.1 p hpq
  have a3 : M 0 c (32 + (2 * p + h)) = g (32 + (2 * p + h)) := by rw [G1, gwi_o _ _ (by omega)]
  have a4 : M p 1079 4 = nI (pl p) := by rw [F p 1079 (by omega)]; exact e4
  have hs : xsN (gcut sz kd gv g (2 * p + h) (bI (dy p < g 144))) (pl p) ≤ pl p * 9 := xsN_le _ (fun k hk => by
    have := (W.2 (2 * p + h) k (by omega) (by omega)).2.1
    have := gcut_le (sz := sz) (kd := kd) (gv := gv) (g := g) (half := 2 * p + h) (i := k) (due := bI (dy p < g 144))
    omega)
  have r0 : xr_Run (d + 4) 209 25 [xP 0 69, xP 0 c, xI (nI p), xI (nI h), u1, u2, u3] [] ([], w) S = xr_Run (d + 4) 209 43 [xP 0 69, xP 0 c, xI (nI p), xI (nI h), xI (nI (2 * p + h)), xI (nI (xsN (gcut sz kd gv g (2 * p + h) (bI (dy p < g 144))) (pl p))), xI (nI (pl p))] [] ([], w) (xs S M) := by
    rw [← r]
    refine (xg209_25 _ _ _ _ hc _ _ _ _ _).trans ?_
    simp (disch := omega) only [xi_t, xn_k, xn_lt, xn_eq, xn_mul, xn_add, xn_sub, xn_dec, xn_m1, xn_1m, if_pos, if_neg, if_true, if_false, cond_true, cond_false, true_and, and_true, false_and, and_false, xr_cI_s, xr_cV_s, xr_cI_e, xr_cV_e, xm_xs, xs_xs]
    rfl
  unfold gwhalf
  by_cases q : xsN (gcut sz kd gv g (2 * p + h) (bI (dy p < g 144))) (pl p) = 0
  · rw [if_pos q]
    refine ⟨xw (xw M 0 c (32 + (2 * p + h)) (g (32 + (2 * p + h)) + nI 1)) 0 c (8 + p) (nI 2), xI (nI (2 * p + h)), xI (nI (xsN (gcut sz kd gv g (2 * p + h) (bI (dy p < g 144))) (pl p))), xI (nI (pl p)), ?_, ?_, fun b e h => ?_⟩
    · rw [r0]
      refine (xg209_43 _ _ _ _ hc _ _ _ _ _).trans ?_
      simp (disch := omega) only [xi_t, xn_k, xn_lt, xn_eq, xn_mul, xn_add, xn_sub, xn_dec, xn_m1, xn_1m, if_pos, if_neg, if_true, if_false, cond_true, cond_false, true_and, and_true, false_and, and_false, xr_cI_s, xr_cV_s, xr_cI_e, xr_cV_e, xm_xs, xs_xs, a3, a4]
    · rw [xw_u, xw_u, G1]
    · rw [xw_r (by omega), xw_r (by omega)]; exact F b e (by omega)
  · rw [if_neg q]
    refine ⟨xw (xw M 0 c (32 + (2 * p + h)) (g (32 + (2 * p + h)) + nI 1)) 0 c (8 + p) (M 0 c (8 + p)), xI (nI (2 * p + h)), xI (nI (xsN (gcut sz kd gv g (2 * p + h) (bI (dy p < g 144))) (pl p))), xI (nI (pl p)), ?_, ?_, fun b e h => ?_⟩
    · rw [r0]
      refine (xg209_43 _ _ _ _ hc _ _ _ _ _).trans ?_
      simp (disch := omega) only [xi_t, xn_k, xn_lt, xn_eq, xn_mul, xn_add, xn_sub, xn_dec, xn_m1, xn_1m, if_pos, if_neg, if_true, if_false, cond_true, cond_false, true_and, and_true, false_and, and_false, xr_cI_s, xr_cV_s, xr_cI_e, xr_cV_e, xm_xs, xs_xs, a3, a4, xw_y, xw_n]
    · rw [xw_u, xw_u, ← G1]
      have e : M 0 c (8 + p) = xu (M 0 c) (32 + (2 * p + h)) (g (32 + (2 * p + h)) + nI 1) (8 + p) := (xu_n (by omega)).symm
      rw [e, xu_same]
    · rw [xw_r (by omega), xw_r (by omega)]; exact F b e (by omega)
theorem gm209 (hc : c = 89 ∨ c = 90) (V : xLv sz kd) (W : xgW np nq pl g) (P : xPl (xm S) np nq ch st du pl dy dp) (L : xLm (xm S) sz kd gv) (G : xm S 0 c = g) : ∃ M, xr_Call (d + 5) 209 [xP 0 69, xP 0 c] ([], w) S = some (.inl none, ([], w), xs S M) ∧ M 0 c = gyear sz kd gv pl dy nq g ∧ ∀ b e, ¬ (b = 0 ∧ (e = c ∨ e = 86 ∨ e = 87)) → M b e = xm S b e := by
  have n3 : ∀ p, p < nq → pl p ≤ 6 := fun p hpq => (P.2.2.2.1 p hpq).2.2.2.2.2.2.2.2
  have b0 := P.2.2.1.1
  have b1 := P.2.2.1.2.1
  have lp : ∀ n, n ≤ nq → ∃ M v1 v2 v3 v4, xr_Run (d + 4) 209 2 [xP 0 69, xP 0 c, xI (nI 0), xU, xU, xU, xU] [] ([], w) S = xr_Run (d + 4) 209 2 [xP 0 69, xP 0 c, xI (nI n), v1, v2, v3, v4] [] ([], w) (xs S M) ∧ M 0 c = gpots sz kd gv pl dy g n ∧ ∀ b e, ¬ (b = 0 ∧ (e = c ∨ e = 86 ∨ e = 87)) → M b e = xm S b e := by
    intro n
    induction n with
    | zero => intro _; exact ⟨xm S, xU, xU, xU, xU, by rw [xs_xm], G, fun _ _ _ => rfl⟩
    | succ n ih =>
      intro hn
      obtain ⟨M, v1, v2, v3, v4, r, G1, F⟩ := ih (by omega)
      have P1 : xPl (xm (xs S M)) np nq ch st du pl dy dp := xPl_fr (fun b e he => F b e (by omega)) P
      have L1 : xLm (xm (xs S M)) sz kd gv := xLm_fr (fun k => F k 1082 (by omega)) (congrFun (F 0 69 (by omega)) 21) L
      have W1 := xgW_gpots (sz := sz) (kd := kd) (gv := gv) (dy := dy) W b1 n3 n (by omega)
      have m1 := P1.2.1.2.1
      simp only [xm_xs] at m1
      have e6 := gm206 (d := d + 3) (w := w) (S := xs S M) hc (p := n) (by omega)
      rw [show gpots sz kd gv pl dy g (n + 1) = gwear sz kd gv pl dy (gpots sz kd gv pl dy g n) n from rfl]
      generalize hg : gpots sz kd gv pl dy g n = g1 at *
      unfold gwear
      by_cases q : g1 (8 + n) = nI 0
      · rw [if_pos q]
        obtain ⟨M1, x1, x2, x3, r1, G2, F1⟩ := gm209h (d := d) (w := w) (S := xs S M) hc V (p := n) (h := 0) W1 (by omega) (by omega) P1 L1 G1 v2 v3 v4
        have ey : gwhalf sz kd gv g1 n (pl n) (2 * n + 0) (bI (dy n < g1 144)) 144 = g1 144 := gwhalf_o (n3 n (by omega)) (by omega)
        obtain ⟨M2, y1, y2, y3, r2, G3, F2⟩ := gm209h (d := d) (w := w) (S := xs (xs S M) M1) hc V (p := n) (h := 1) (xgW_gwhalf W1 b1 (half := 2 * n + 0) (by omega) (n3 n (by omega)) (p := n) (by omega)) (by omega) (by omega) (xPl_fr (fun b e he => F1 b e (by omega)) P1) (xLm_fr (fun k => F1 k 1082 (by omega)) (congrFun (F1 0 69 (by omega)) 21) L1) G2 x1 x2 x3
        rw [ey] at G3
        refine ⟨M2, xI (nI 2), y1, y2, y3, ?_, G3, fun b e h => ?_⟩
        · rw [r]
          refine (xg209_2 _ _ _ _ hc _ _ _ _ _).trans ?_
          have eb : bI (xm (xs S M) 0 c (8 + n) = nI 0) = nI 1 := by
            unfold bI; rw [xm_xs, G1, if_pos q]
          rw [eb] at e6
          simp (disch := omega) only [xi_t, xn_k, xn_lt, xn_eq, xn_mul, xn_add, xn_sub, xn_dec, xn_m1, xn_1m, if_pos, if_neg, if_true, if_false, cond_true, cond_false, true_and, and_true, false_and, and_false, xr_cI_s, xr_cV_s, xr_cI_e, xr_cV_e, xm_xs, xs_xs, m1, e6]
          rw [r1, r2]
          refine (xg209_25 _ _ _ _ hc _ _ _ _ _).trans ?_
          simp (disch := omega) only [xi_t, xn_k, xn_lt, xn_eq, xn_mul, xn_add, xn_sub, xn_dec, xn_m1, xn_1m, if_pos, if_neg, if_true, if_false, cond_true, cond_false, true_and, and_true, false_and, and_false, xr_cI_s, xr_cV_s, xr_cI_e, xr_cV_e, xm_xs, xs_xs]
        · rw [F2 b e h, xm_xs, F1 b e h]; exact F b e h
      · rw [if_neg q]
        refine ⟨M, v1, v2, v3, v4, ?_, G1, F⟩
        rw [r]
        refine (xg209_2 _ _ _ _ hc _ _ _ _ _).trans ?_
        have eb : bI (xm (xs S M) 0 c (8 + n) = nI 0) = nI 0 := by
          unfold bI; rw [xm_xs, G1, if_neg q]
        rw [eb] at e6
        simp (disch := omega) only [xi_t, xn_k, xn_lt, xn_eq, xn_mul, xn_add, xn_sub, xn_dec, xn_m1, xn_1m, if_pos, if_neg, if_true, if_false, cond_true, cond_false, true_and, and_true, false_and, and_false, xr_cI_s, xr_cV_s, xr_cI_e, xr_cV_e, xm_xs, xs_xs, m1, e6]
  obtain ⟨M, v1, v2, v3, v4, r, G1, F⟩ := lp nq (Nat.le_refl _)
  refine ⟨xw M 0 c 144 (gpots sz kd gv pl dy g nq 144 + nI 1), ?_, ?_, fun b e h => ?_⟩
  · rw [xe209 (d + 4) w S c hc, r]
    refine (xg209_2 _ _ _ _ hc _ _ _ _ _).trans ?_
    have m1 : M 0 73 1 = nI nq := by rw [F 0 73 (by omega)]; exact P.2.1.2.1
    simp (disch := omega) only [xi_t, xn_k, xn_lt, xn_eq, xn_mul, xn_add, xn_sub, xn_dec, xn_m1, xn_1m, if_pos, if_neg, if_true, if_false, cond_true, cond_false, true_and, and_true, false_and, and_false, xr_cI_s, xr_cV_s, xr_cI_e, xr_cV_e, xm_xs, xs_xs, m1, G1]
  · rw [xw_u, G1]; rfl
  · rw [xw_r (by omega)]; exact F b e (by omega)
end
