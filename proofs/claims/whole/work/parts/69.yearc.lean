/-! A YEAR: the class's wearPot and passYear, the model's yearEnds -/
theorem lwear_le {sz : Nat} {kd : Nat → Nat} {gv : Nat → Int32} {a : Nat} {b c d e f : Int32} (ha : a < 1000) : lwear sz kd gv a b c d e f ≤ a := lcl_le _ _ (by omega)
theorem gcut_le {sz : Nat} {kd : Nat → Nat} {gv g : Nat → Int32} {half i : Nat} {due : Int32} : gcut sz kd gv g half due i ≤ gN g (48 + 6 * half + i) := Nat.sub_le _ _
theorem xu_same (g : Nat → Int32) (k : Nat) : xu g k (g k) = g := by
  funext j; unfold xu; split
  · rename_i h; rw [h]
  · rfl
section
variable {d : Nat} {w : List Nat} {S : xr_S} {c : Nat} {np nq ch st : Nat} {du pl : Nat → Nat} {dy : Nat → Int32} {dp : Nat → Nat → Nat} {g : Nat → Int32} {sz : Nat} {kd : Nat → Nat} {gv : Nat → Int32}
theorem gc12i (hc : c = 3 ∨ c = 12) (V : xLv sz kd) (W : xgW np nq pl g) {p half : Nat} {due : Int32} (hpq : p < nq) (hh : half / 2 = p) : ∀ (n i : Nat) (S : xr_S) (v : xr_V), i + n = pl p → xPl (xm S) np nq ch st du pl dy dp → xLc (xm S) sz kd gv → xGr (xm S) 0 c np nq pl (gwi sz kd gv g half due i) → ∃ M v', xr_Run (d + 3) 12 47 [xP 0 c, xP 0 35, xP 0 53, xI (nI p), xI due, xI (nI half), xI (nI (xsN (gcut sz kd gv g half due) i)), xI (nI i), v] [] ([], w) S = xr_Run (d + 3) 12 47 [xP 0 c, xP 0 35, xP 0 53, xI (nI p), xI due, xI (nI half), xI (nI (xsN (gcut sz kd gv g half due) (pl p))), xI (nI (pl p)), v'] [] ([], w) (xs S M) ∧ xGr M 0 c np nq pl (gwi sz kd gv g half due (pl p)) ∧ ∀ b e, ¬ (b = 0 ∧ (e = c + 5 ∨ e = 56 ∨ e = 57)) → M b e = xm S b e := by
  intro n
  induction n with
  | zero =>
    intro i S v hi P L G
    rw [show i = pl p by omega] at G ⊢
    exact ⟨xm S, v, by rw [xs_xm], G, fun _ _ _ => rfl⟩
  | succ n ih =>
    intro i S v hi P L G
    have P' := P
    have G' := G
    obtain ⟨⟨p0, p1, p2, p3⟩, ⟨m0, m1, m2, m3⟩, ⟨b0, b1, b2, b3, b4⟩, hp, hd⟩ := P
    obtain ⟨g0, g1, g2, g3, g4, g5⟩ := G
    obtain ⟨c39, c40, c41, e2, e3, e4, l1, l2, l3⟩ := hp p hpq
    obtain ⟨w1, w2, _⟩ := W.2 half i (by omega) (by omega)
    have a1 : xm S 0 (c + 5) (half * 6 + i) = nI (gN g (48 + 6 * half + i)) := by
      rw [g5 half i (by omega) (by rw [hh]; omega), gwi_o _ _ (by omega)]; exact w1
    have a2 : xm S 0 c 0 = g 144 := by rw [g0, gwi_o _ _ (by omega)]
    have a3 : xm S 0 (c + 4) half = g (32 + half) := by rw [g4 half (by omega), gwi_o _ _ (by omega)]
    obtain ⟨M1, e1, F1⟩ := lc53 (d := d) (w := w) V L (a := gN g (48 + 6 * half + i)) (by omega) (nI i) (nI (half % 2)) (g 144) (g (32 + half)) due
    have hle := lwear_le (sz := sz) (kd := kd) (gv := gv) (a := gN g (48 + 6 * half + i)) (b := nI i) (c := nI (half % 2)) (d := g 144) (e := g (32 + half)) (f := due) (by omega)
    have ec : gN g (48 + 6 * half + i) - lwear sz kd gv (gN g (48 + 6 * half + i)) (nI i) (nI (half % 2)) (g 144) (g (32 + half)) due = gcut sz kd gv g half due i := rfl
    have F2 : ∀ b e, ¬ (b = 0 ∧ (e = c + 5 ∨ e = 56 ∨ e = 57)) → xw M1 0 (c + 5) (half * 6 + i) (nI (gcut sz kd gv g half due i)) b e = xm S b e := fun b e q => by
      rw [xw_r (by omega)]; exact F1 b e (by omega)
    have G2 : xGr (xw M1 0 (c + 5) (half * 6 + i) (nI (gcut sz kd gv g half due i))) 0 c np nq pl (gwi sz kd gv g half due (i + 1)) := xGr_d (xGr_fr (fun e _ _ => F1 0 e (by omega)) G') b0 b1 (fun p hpq => (hp p hpq).2.2.2.2.2.2.2.2) (by omega) (by omega) _
    obtain ⟨M3, v3, r3, G3, F3⟩ := ih (i + 1) (xs S (xw M1 0 (c + 5) (half * 6 + i) (nI (gcut sz kd gv g half due i)))) (xI (nI (half * 6 + i))) (by omega) (xPl_fr (fun b e he => F2 b e (by omega)) P') (xLc_fr (fun e he => F2 0 e (by omega)) L) G2
    refine ⟨M3, v3, ?_, G3, fun b e q => ?_⟩
    · rw [xs_xs] at r3
      rw [← r3]
      refine (xg12_47 _ _ _ _ hc _ _ _ _ _ _).trans ?_
      have z : ¬ nI 2 = 0 := by decide
      simp (disch := omega) only [z, xn_div, xi_t, xn_k, xn_lt, xn_eq, xn_mul, xn_add, xn_sub, xn_dec, xn_m1, xn_1m, if_pos, if_neg, if_true, if_false, cond_true, cond_false, true_and, and_true, false_and, and_false, xr_cI_s, xr_cV_s, xr_cI_e, xr_cV_e, xm_xs, xs_xs, c41, a1, a2, a3, show half - half / 2 * 2 = half % 2 by omega, e1]
      rw [ec]
      simp (disch := omega) only [xw_y, xw_n, xu_y, xu_n, if_pos, if_neg, if_true, if_false, true_and, and_true, false_and, and_false, xn_add, xsN]
    · rw [F3 b e q]; exact F2 b e q
theorem gc12h (hc : c = 3 ∨ c = 12) (V : xLv sz kd) {p half : Nat} {due : Int32} (W : xgW np nq pl g) (hpq : p < nq) (hh : half / 2 = p) (P : xPl (xm S) np nq ch st du pl dy dp) (L : xLc (xm S) sz kd gv) (G : xGr (xm S) 0 c np nq pl g) (u1 u2 u3 : xr_V) : ∃ M v1 v2 v3, xr_Run (d + 3) 12 31 [xP 0 c, xP 0 35, xP 0 53, xI (nI p), xI due, xI (nI half), u1, u2, u3] [] ([], w) S = xr_Run (d + 3) 12 31 [xP 0 c, xP 0 35, xP 0 53, xI (nI p), xI due, xI (nI (half + 1)), v1, v2, v3] [] ([], w) (xs S M) ∧ xGr M 0 c np nq pl (gwhalf sz kd gv g p (pl p) half due) ∧ ∀ b e, ¬ (b = 0 ∧ (e = c + 2 ∨ e = c + 4 ∨ e = c + 5 ∨ e = 56 ∨ e = 57)) → M b e = xm S b e := by
  obtain ⟨M, v', r, G1, F⟩ := gc12i (d := d) (w := w) hc V W (due := due) hpq hh (pl p) 0 S u3 (by omega) P L G
  have b0 := P.2.2.1.1
  have b1 := P.2.2.1.2.1
  have b2 := P.2.2.1.2.1
  obtain ⟨c39, c40, c41, e2, e3, e4, l1, l2, l3⟩ := P.2.2.2.1 p hpq
  have a3 : M 0 (c + 4) half = g (32 + half) := by rw [G1.2.2.2.2.1 half (by omega), gwi_o _ _ (by omega)]
  have a4 : M 0 41 p = nI (pl p) := by rw [F 0 41 (by omega)]; exact c41
  have hs : xsN (gcut sz kd gv g half due) (pl p) ≤ pl p * 9 := xsN_le _ (fun k hk => by
    have := (W.2 half k (by omega) (by omega)).2.1
    have := gcut_le (sz := sz) (kd := kd) (gv := gv) (g := g) (half := half) (i := k) (due := due)
    omega)
  have r0 : xr_Run (d + 3) 12 31 [xP 0 c, xP 0 35, xP 0 53, xI (nI p), xI due, xI (nI half), u1, u2, u3] [] ([], w) S = xr_Run (d + 3) 12 47 [xP 0 c, xP 0 35, xP 0 53, xI (nI p), xI due, xI (nI half), xI (nI (xsN (gcut sz kd gv g half due) (pl p))), xI (nI (pl p)), v'] [] ([], w) (xs S M) := by
    rw [← r]
    refine (xg12_31 _ _ _ _ hc _ _ _ _ _ _).trans ?_
    simp (disch := omega) only [xi_t, xn_k, xn_lt, xn_eq, xn_mul, xn_add, xn_sub, xn_dec, xn_m1, xn_1m, if_pos, if_neg, if_true, if_false, cond_true, cond_false, true_and, and_true, false_and, and_false, xr_cI_s, xr_cV_s, xr_cI_e, xr_cV_e, xm_xs, xs_xs]
    rfl
  have GA := xGr_a G1 b0 b1 (k := half) (by omega) (g (32 + half) + nI 1)
  unfold gwhalf
  by_cases q : xsN (gcut sz kd gv g half due) (pl p) = 0
  · rw [if_pos q]
    refine ⟨xw (xw M 0 (c + 4) half (g (32 + half) + nI 1)) 0 (c + 2) p (nI 2), xI (nI (xsN (gcut sz kd gv g half due) (pl p))), xI (nI (pl p)), v', ?_, xGr_s GA b0 b1 hpq _, fun b e h => ?_⟩
    · rw [r0]
      refine (xg12_47 _ _ _ _ hc _ _ _ _ _ _).trans ?_
      simp (disch := omega) only [xi_t, xn_k, xn_lt, xn_eq, xn_mul, xn_add, xn_sub, xn_dec, xn_m1, xn_1m, if_pos, if_neg, if_true, if_false, cond_true, cond_false, true_and, and_true, false_and, and_false, xr_cI_s, xr_cV_s, xr_cI_e, xr_cV_e, xm_xs, xs_xs, a3, a4]
    · rw [xw_r (by omega), xw_r (by omega)]; exact F b e (by omega)
  · rw [if_neg q]
    refine ⟨xw M 0 (c + 4) half (g (32 + half) + nI 1), xI (nI (xsN (gcut sz kd gv g half due) (pl p))), xI (nI (pl p)), v', ?_, GA, fun b e h => ?_⟩
    · rw [r0]
      refine (xg12_47 _ _ _ _ hc _ _ _ _ _ _).trans ?_
      simp (disch := omega) only [xi_t, xn_k, xn_lt, xn_eq, xn_mul, xn_add, xn_sub, xn_dec, xn_m1, xn_1m, if_pos, if_neg, if_true, if_false, cond_true, cond_false, true_and, and_true, false_and, and_false, xr_cI_s, xr_cV_s, xr_cI_e, xr_cV_e, xm_xs, xs_xs, a3, a4]
    · rw [xw_r (by omega)]; exact F b e (by omega)
theorem gc12 (hc : c = 3 ∨ c = 12) (V : xLv sz kd) (W : xgW np nq pl g) {p : Nat} (hpq : p < nq) (P : xPl (xm S) np nq ch st du pl dy dp) (L : xLc (xm S) sz kd gv) (G : xGr (xm S) 0 c np nq pl g) : ∃ M, xr_Call (d + 4) 12 [xP 0 c, xP 0 35, xP 0 53, xI (nI p)] ([], w) S = some (.inl none, ([], w), xs S M) ∧ xGr M 0 c np nq pl (gwear sz kd gv pl dy g p) ∧ ∀ b e, ¬ (b = 0 ∧ (e = c + 2 ∨ e = c + 4 ∨ e = c + 5 ∨ e = 56 ∨ e = 57)) → M b e = xm S b e := by
  have b1 := P.2.2.1.2.1
  have l3 := (P.2.2.2.1 p hpq).2.2.2.2.2.2.2.2
  rw [xe12 (d + 3) w S c hc]
  have gs := G.2.2.1 p hpq
  unfold gwear
  by_cases q : g (8 + p) = nI 0
  · rw [if_pos q]
    obtain ⟨M1, v1, v2, v3, r1, G1, F1⟩ := gc12h (d := d) (w := w) hc V (half := 2 * p) (due := bI (dy p < g 144)) W hpq (by omega) P L G xU xU xU
    obtain ⟨M2, u1, u2, u3, r2, G2, F2⟩ := gc12h (d := d) (w := w) (S := xs S M1) hc V (half := 2 * p + 1) (due := bI (dy p < g 144)) (xgW_gwhalf W b1 (by omega) l3 hpq) hpq (by omega) (xPl_fr (fun b e he => F1 b e (by omega)) P) (xLc_fr (fun e he => F1 0 e (by omega)) L) G1 v1 v2 v3
    refine ⟨M2, ?_, G2, fun b e h => ?_⟩
    · have e16 := gc16 (d := d + 2) (w := w) hc P G hpq
      have e : bI (g (8 + p) = nI 0 ∧ dy p < g 144) = bI (dy p < g 144) := by unfold bI; simp only [q, true_and]
      rw [e] at e16
      have fin : xr_Run (d + 3) 12 31 [xP 0 c, xP 0 35, xP 0 53, xI (nI p), xI (bI (dy p < g 144)), xI (nI (2 * p)), xU, xU, xU] [] ([], w) S = some (.inl none, ([], w), xs S M2) := by
        rw [r1, r2]
        refine (xg12_31 _ _ _ _ hc _ _ _ _ _ _).trans ?_
        simp (disch := omega) only [xi_t, xn_k, xn_lt, xn_eq, xn_mul, xn_add, xn_sub, xn_dec, xn_m1, xn_1m, if_pos, if_neg, if_true, if_false, cond_true, cond_false, true_and, and_true, false_and, and_false, xr_cI_s, xr_cV_s, xr_cI_e, xr_cV_e, xm_xs, xs_xs]
      simp (disch := omega) only [xi_t, xn_k, xn_lt, xn_eq, xn_mul, xn_add, xn_sub, xn_dec, xn_m1, xn_1m, if_pos, if_neg, if_true, if_false, cond_true, cond_false, true_and, and_true, false_and, and_false, xr_cI_s, xr_cV_s, xr_cI_e, xr_cV_e, xm_xs, xs_xs, gs, q, if_true, e16]
      have e4 : bI (dy p < g 144) = nI 0 ∨ bI (dy p < g 144) = nI 1 := by unfold bI; split <;> simp
      rcases e4 with e4 | e4
      · rw [e4] at fin ⊢
        simp (disch := omega) only [xi_t, xn_k, xn_lt, xn_eq, xn_mul, xn_add, xn_sub, xn_dec, xn_m1, xn_1m, if_pos, if_neg, if_true, if_false, cond_true, cond_false, true_and, and_true, false_and, and_false, xr_cI_s, xr_cV_s, xr_cI_e, xr_cV_e, xm_xs, xs_xs]
        exact fin
      · rw [e4] at fin ⊢
        simp (disch := omega) only [xi_t, xn_k, xn_lt, xn_eq, xn_mul, xn_add, xn_sub, xn_dec, xn_m1, xn_1m, if_pos, if_neg, if_true, if_false, cond_true, cond_false, true_and, and_true, false_and, and_false, xr_cI_s, xr_cV_s, xr_cI_e, xr_cV_e, xm_xs, xs_xs]
        exact fin
    · rw [F2 b e h]; exact F1 b e h
  · rw [if_neg q]
    refine ⟨xm S, ?_, G, fun _ _ _ => rfl⟩
    simp (disch := omega) only [xi_t, xn_k, xn_lt, xn_eq, xn_mul, xn_add, xn_sub, xn_dec, xn_m1, xn_1m, if_pos, if_neg, if_true, if_false, cond_true, cond_false, true_and, and_true, false_and, and_false, xr_cI_s, xr_cV_s, xr_cI_e, xr_cV_e, xm_xs, xs_xs, gs, q, if_false, xs_xm]
theorem gc11 (hc : c = 3 ∨ c = 12) (V : xLv sz kd) (W : xgW np nq pl g) (P : xPl (xm S) np nq ch st du pl dy dp) (L : xLc (xm S) sz kd gv) (G : xGr (xm S) 0 c np nq pl g) : ∃ M, xr_Call (d + 5) 11 [xP 0 c, xP 0 35, xP 0 53] ([], w) S = some (.inl none, ([], w), xs S M) ∧ xGr M 0 c np nq pl (gyear sz kd gv pl dy nq g) ∧ ∀ b e, ¬ (b = 0 ∧ (e = c ∨ e = c + 2 ∨ e = c + 4 ∨ e = c + 5 ∨ e = 56 ∨ e = 57)) → M b e = xm S b e := by
  have n3 : ∀ p, p < nq → pl p ≤ 6 := fun p hpq => (P.2.2.2.1 p hpq).2.2.2.2.2.2.2.2
  have b0 := P.2.2.1.1
  have b1 := P.2.2.1.2.1
  have lp : ∀ n, n ≤ nq → ∃ M, xr_Run (d + 4) 11 2 [xP 0 c, xP 0 35, xP 0 53, xI (nI 0)] [] ([], w) S = xr_Run (d + 4) 11 2 [xP 0 c, xP 0 35, xP 0 53, xI (nI n)] [] ([], w) (xs S M) ∧ xGr M 0 c np nq pl (gpots sz kd gv pl dy g n) ∧ ∀ b e, ¬ (b = 0 ∧ (e = c + 2 ∨ e = c + 4 ∨ e = c + 5 ∨ e = 56 ∨ e = 57)) → M b e = xm S b e := by
    intro n
    induction n with
    | zero => intro _; exact ⟨xm S, by rw [xs_xm], G, fun _ _ _ => rfl⟩
    | succ n ih =>
      intro hn
      obtain ⟨M, r, G1, F⟩ := ih (by omega)
      have P1 : xPl (xm (xs S M)) np nq ch st du pl dy dp := xPl_fr (fun b e he => F b e (by omega)) P
      obtain ⟨M2, r2, G2, F2⟩ := gc12 (d := d) (w := w) (S := xs S M) hc V (xgW_gpots W b1 n3 n (by omega)) (p := n) (by omega) P1 (xLc_fr (fun e he => F 0 e (by omega)) L) G1
      refine ⟨M2, ?_, G2, fun b e h => ?_⟩
      · rw [r]
        refine (xg11_2 _ _ _ _ hc _).trans ?_
        have p1 := P1.1.2.1
        simp (disch := omega) only [xm_xs] at p1
        simp (disch := omega) only [xi_t, xn_k, xn_lt, xn_eq, xn_mul, xn_add, xn_sub, xn_dec, xn_m1, xn_1m, if_pos, if_neg, if_true, if_false, cond_true, cond_false, true_and, and_true, false_and, and_false, xr_cI_s, xr_cV_s, xr_cI_e, xr_cV_e, xm_xs, xs_xs, p1, r2]
      · rw [F2 b e h]; exact F b e h
  obtain ⟨M, r, G1, F⟩ := lp nq (Nat.le_refl _)
  refine ⟨xw M 0 c 0 (gpots sz kd gv pl dy g nq 144 + nI 1), ?_, xGr_y G1 b0 b1 n3 _, fun b e h => ?_⟩
  · rw [xe11 (d + 4) w S c hc, r]
    refine (xg11_2 _ _ _ _ hc _).trans ?_
    have p1 : M 0 35 1 = nI nq := by rw [F 0 35 (by omega)]; exact P.1.2.1
    simp (disch := omega) only [xi_t, xn_k, xn_lt, xn_eq, xn_mul, xn_add, xn_sub, xn_dec, xn_m1, xn_1m, if_pos, if_neg, if_true, if_false, cond_true, cond_false, true_and, and_true, false_and, and_false, xr_cI_s, xr_cV_s, xr_cI_e, xr_cV_e, xm_xs, xs_xs, p1, G1.1]
  · rw [xw_r (by omega)]; exact F b e (by omega)
end
