/-! QUESTIONS, 5: feel -/
def fwst (fl : Nat → Option Nat) (pl : Nat → Nat) (g : Nat → Int32) (nq i : Nat) : Nat := hmx (fcnt fl pl g i (2 * nq)) 11
def ffeel (fl : Nat → Option Nat) (pl : Nat → Nat) (g : Nat → Int32) (nq n : Nat) : Option (Nat × Nat) := xfo (fun i o => geas1 (cond (fl i).isNone (some (fwst fl pl g nq i)) none) i o) n none
theorem fcnt_le {fl : Nat → Option Nat} {pl : Nat → Nat} {g : Nat → Int32} {i n v : Nat} : fcnt fl pl g i n v ≤ n := xsN_le1 n (fun k _ => by split <;> omega)
theorem fwst_le {fl : Nat → Option Nat} {pl : Nat → Nat} {g : Nat → Int32} {nq i : Nat} : fwst fl pl g nq i ≤ 2 * nq := hmx_le 11 (fun _ _ => fcnt_le)
theorem fcnt_s {fl : Nat → Option Nat} {pl : Nat → Nat} {g : Nat → Int32} {i n v : Nat} : fcnt fl pl g i (n + 1) v = fcnt fl pl g i n v + if gfit fl pl g n = true ∧ fA pl g n i = v then 1 else 0 := rfl
theorem ffeel_b {fl : Nat → Option Nat} {pl : Nat → Nat} {g : Nat → Int32} {nq : Nat} (hq : nq ≤ 8) : ∀ n, n ≤ 6 → ∀ b c, ffeel fl pl g nq n = some (b, c) → b < 6 ∧ c ≤ 16 := by
  intro n
  induction n with
  | zero => intro _ b c h; cases h
  | succ n ih =>
    intro hn b c h
    have ih := ih (by omega)
    unfold ffeel at h ih
    rw [xfo] at h
    have hw := fwst_le (fl := fl) (pl := pl) (g := g) (nq := nq) (i := n)
    cases hf : fl n with
    | some v => rw [hf] at h; exact ih b c h
    | none =>
      rw [hf] at h
      dsimp only [Option.isNone, cond_true, geas1] at h
      split at h
      · cases h; exact ⟨by omega, by omega⟩
      · rename_i b0 c0 e
        split at h
        · cases h; exact ⟨by omega, by omega⟩
        · exact ih b c (e.trans h)
section
variable {d : Nat} {w : List Nat} {S : xr_S} {np nq ch st : Nat} {du pl : Nat → Nat} {dy : Nat → Int32} {dp : Nat → Nat → Nat} {sz : Nat} {kd : Nat → Nat} {gv g : Nat → Int32} {h : Nat → Nat} {s : Nat → Nat → Int32} {ln : Nat} {ti : Nat → Nat} {fl : Nat → Option Nat}
theorem fc98 (P : xPl (xm S) np nq ch st du pl dy dp) (G : xGr (xm S) 0 3 np nq pl g) (W : xgW np nq pl g) (To : xTo (xm S) ln ti fl) {i : Nat} (hi : i < 6) : ∃ M, xr_Call (d + 3) 98 [xP 0 63, xP 0 35, xP 0 3, xI (nI i)] ([], w) S = some (.inl (some (nI (fwst fl pl g nq i))), ([], w), xs S M) ∧ ∀ b e, ¬ (b = 0 ∧ e = 65) → M b e = xm S b e := by
  have b1 := P.2.2.1.2.1
  have lp : ∀ n, n ≤ 2 * nq → ∃ M v, xr_Run (d + 2) 98 14 [xP 0 63, xP 0 35, xP 0 3, xI (nI i), xI (nI 0), xI (nI 0), xU] [] ([], w) (xs S (xfl (xm S) 0 65 11 (nI 0))) = xr_Run (d + 2) 98 14 [xP 0 63, xP 0 35, xP 0 3, xI (nI i), xI (nI (hmx (fcnt fl pl g i n) 11)), xI (nI n), v] [] ([], w) (xs S M) ∧ (∀ v, v < 11 → M 0 65 v = nI (fcnt fl pl g i n v)) ∧ ∀ b e, ¬ (b = 0 ∧ e = 65) → M b e = xm S b e := by
    intro n
    induction n with
    | zero =>
      intro _
      exact ⟨_, xU, rfl, fun v hv => xfl_y hv, fun b e q => xfl_r q⟩
    | succ n ih =>
      intro hn
      obtain ⟨M, v, r, c, F⟩ := ih (by omega)
      have P1 : xPl (xm (xs S M)) np nq ch st du pl dy dp := xPl_fr (fun b e he => F b e (by omega)) P
      have G1 : xGr (xm (xs S M)) 0 3 np nq pl g := xGr_fr (fun e h1 h2 => F 0 e (by omega)) G
      have T1 : xTo (xm (xs S M)) ln ti fl := xTo_fr (F 0 63 (by omega)) (F 0 64 (by omega)) (fun k => F k 1084 (by omega)) (congrFun (F 0 69 (by omega)) 35) To
      have p1 := P1.1.2.1
      rw [xm_xs] at p1
      have e6 := fc96 (d := d) (w := w) P1 G1 W T1 (half := n) (by omega)
      cases hg : gfit fl pl g n with
      | false =>
        rw [hg] at e6
        have ec : ∀ v, fcnt fl pl g i (n + 1) v = fcnt fl pl g i n v := fun v => by rw [fcnt_s, if_neg (by rw [hg]; simp), Nat.add_zero]
        refine ⟨M, v, ?_, fun v hv => by rw [ec]; exact c v hv, F⟩
        rw [r]
        refine (xg98_14 _ _ _ _ _ _ _).trans ?_
        rw [e6]
        simp (disch := omega) only [xi_t, xn_k, xn_lt, xn_eq, xn_mul, xn_add, xn_sub, xn_dec, xn_m1, xn_1m, if_pos, if_neg, if_true, if_false, cond_true, cond_false, true_and, and_true, false_and, and_false, xr_cI_s, xr_cV_s, xr_cI_e, xr_cV_e, xm_xs, xs_xs, p1, hmx_congr 11 (fun v _ => ec v)]
      | true =>
        rw [hg] at e6
        have e7 := fc97 (d := d + 1) (w := w) P1 G1 W (half := n) (i := i) (by omega) hi
        have hf := fA_le W (half := n) (i := i) (by omega) hi
        have ec : ∀ v, fcnt fl pl g i (n + 1) v = fcnt fl pl g i n v + if fA pl g n i = v then 1 else 0 := fun v => by rw [fcnt_s]; simp only [hg, true_and]
        have c1 := c (fA pl g n i) (by omega)
        have ey : fcnt fl pl g i (n + 1) (fA pl g n i) = fcnt fl pl g i n (fA pl g n i) + 1 := by rw [ec, if_pos rfl]
        refine ⟨xw M 0 65 (fA pl g n i) (nI (fcnt fl pl g i n (fA pl g n i) + 1)), xI (nI (fA pl g n i)), ?_, fun v hv => ?_, fun b e q => ?_⟩
        · rw [r]
          refine (xg98_14 _ _ _ _ _ _ _).trans ?_
          rw [e6]
          have h1 := fcnt_le (fl := fl) (pl := pl) (g := g) (i := i) (n := n) (v := fA pl g n i)
          have h2 : hmx (fcnt fl pl g i n) 11 ≤ n := hmx_le 11 (fun _ _ => fcnt_le)
          simp (disch := omega) only [xi_t, xn_k, xn_lt, xn_eq, xn_mul, xn_add, if_neg, if_pos, if_false, if_true, cond_true, xr_cI_s, p1, e7, c1, xm_xs, xs_xs, xw_y, xn_maxA, true_and]
          rw [hmx_up (f := fcnt fl pl g i n) (f' := fcnt fl pl g i (n + 1)) (a := fA pl g n i) 11 (by omega) (fun v _ q => by rw [ec, if_neg (fun h => q h.symm), Nat.add_zero]) (by rw [ey]; omega), ey]
        · rw [ec]
          by_cases q : fA pl g n i = v
          · subst q
            rw [xw_y (by omega), if_pos rfl]
          · rw [xw_n (by omega), if_neg q, Nat.add_zero]; exact c v hv
        · rw [xw_r q]; exact F b e q
  obtain ⟨M, v, r, c, F⟩ := lp (2 * nq) (Nat.le_refl _)
  refine ⟨M, ?_, F⟩
  rw [xe98, fl280_65, xr_cV_s, r]
  refine (xg98_14 _ _ _ _ _ _ _).trans ?_
  have p1 : M 0 35 1 = nI nq := by rw [F 0 35 (by omega)]; exact P.1.2.1
  simp (disch := omega) only [xi_t, xn_k, xn_lt, xn_eq, xn_mul, xn_add, xn_sub, xn_dec, xn_m1, xn_1m, if_pos, if_neg, if_true, if_false, cond_true, cond_false, true_and, and_true, false_and, and_false, xr_cI_s, xr_cV_s, xr_cI_e, xr_cV_e, xm_xs, xs_xs, p1]
  rfl
theorem fm251 (P : xPl (xm S) np nq ch st du pl dy dp) (e89 : xm S 0 89 = g) (W : xgW np nq pl g) (To : xTo (xm S) ln ti fl) {i : Nat} (hi : i < 6) : ∃ M, xr_Call (d + 3) 251 [xP 0 69, xI (nI i)] ([], w) S = some (.inl (some (nI (fwst fl pl g nq i))), ([], w), xs S M) ∧ ∀ b e, ¬ (b = 0 ∧ e = 94) → M b e = xm S b e := by
  have b1 := P.2.2.1.2.1
  have l0 : xr_Call (d + 3) 251 [xP 0 69, xI (nI i)] ([], w) S = xr_Run (d + 2) 251 25 [xP 0 69, xI (nI i), xI (nI 0), xI (nI 0)] [] ([], w) (xs S (xfl (xm S) 0 94 11 (nI 0))) := by
    rw [xe251]
    have L := xl_up (T := fun k => xr_Run (d + 2) 251 4 [xP 0 69, xI (nI i), xI (nI 0), xI (nI k)] [] ([], w) (xs S (xfl (xm S) 0 94 k (nI 0)))) (n := 11) (fun k hk => by
      refine (xg251_4 _ _ _ _ _ _).trans ?_
      simp (disch := omega) only [xi_t, xn_k, xn_lt, xn_eq, xn_mul, xn_add, xn_sub, xn_dec, xn_m1, xn_1m, if_pos, if_neg, if_true, if_false, cond_true, cond_false, true_and, and_true, false_and, and_false, xr_cI_s, xr_cV_s, xr_cI_e, xr_cV_e, xm_xs, xs_xs, xfl_s])
    rw [xfl_0, xs_xm] at L
    refine L.trans ?_
    refine (xg251_4 _ _ _ _ _ _).trans ?_
    simp (disch := omega) only [xi_t, xn_k, xn_lt, xn_eq, xn_mul, xn_add, xn_sub, xn_dec, xn_m1, xn_1m, if_pos, if_neg, if_true, if_false, cond_true, cond_false, true_and, and_true, false_and, and_false, xr_cI_s, xr_cV_s, xr_cI_e, xr_cV_e, xm_xs, xs_xs]
  have lp : ∀ n, n ≤ 2 * nq → ∃ M, xr_Run (d + 2) 251 25 [xP 0 69, xI (nI i), xI (nI 0), xI (nI 0)] [] ([], w) (xs S (xfl (xm S) 0 94 11 (nI 0))) = xr_Run (d + 2) 251 25 [xP 0 69, xI (nI i), xI (nI 0), xI (nI n)] [] ([], w) (xs S M) ∧ (∀ v, v < 11 → M 0 94 v = nI (fcnt fl pl g i n v)) ∧ ∀ b e, ¬ (b = 0 ∧ e = 94) → M b e = xm S b e := by
    intro n
    induction n with
    | zero =>
      intro _
      exact ⟨_, rfl, fun v hv => xfl_y hv, fun b e q => xfl_r q⟩
    | succ n ih =>
      intro hn
      obtain ⟨M, r, c, F⟩ := ih (by omega)
      have P1 : xPl (xm (xs S M)) np nq ch st du pl dy dp := xPl_fr (fun b e he => F b e (by omega)) P
      have T1 : xTo (xm (xs S M)) ln ti fl := xTo_fr (F 0 63 (by omega)) (F 0 64 (by omega)) (fun k => F k 1084 (by omega)) (congrFun (F 0 69 (by omega)) 35) To
      have e9 : xm (xs S M) 0 89 = g := by rw [xm_xs, F 0 89 (by omega)]; exact e89
      have m1 := P1.2.1.2.1
      rw [xm_xs] at m1
      have e6 := fm248 (d := d) (w := w) P1 e9 W T1 (half := n) (by omega)
      have e7 := fm247 (d := d + 1) (w := w) P1 (half := n) (by omega)
      have l3 := (P.2.2.2.1 (n / 2) (by omega)).2.2.2.2.2.2.2.2
      cases hg : gfit fl pl g n with
      | false =>
        rw [hg] at e6
        have ec : ∀ v, fcnt fl pl g i (n + 1) v = fcnt fl pl g i n v := fun v => by rw [fcnt_s, if_neg (by rw [hg]; simp), Nat.add_zero]
        refine ⟨M, ?_, fun v hv => by rw [ec]; exact c v hv, F⟩
        rw [r]
        refine (xg251_25 _ _ _ _ _ _).trans ?_
        rw [e6]
        simp (disch := omega) only [xi_t, xn_k, xn_lt, xn_eq, xn_mul, xn_add, xn_sub, xn_dec, xn_m1, xn_1m, if_pos, if_neg, if_true, if_false, cond_true, cond_false, true_and, and_true, false_and, and_false, xr_cI_s, xr_cV_s, xr_cI_e, xr_cV_e, xm_xs, xs_xs, m1]
      | true =>
        rw [hg] at e6
        have hf := fA_le W (half := n) (i := i) (by omega) hi
        have ec : ∀ v, fcnt fl pl g i (n + 1) v = fcnt fl pl g i n v + if fA pl g n i = v then 1 else 0 := fun v => by rw [fcnt_s]; simp only [hg, true_and]
        have c1 := c (fA pl g n i) (by omega)
        refine ⟨xw M 0 94 (fA pl g n i) (nI (fcnt fl pl g i n (fA pl g n i) + 1)), ?_, fun v hv => ?_, fun b e q => ?_⟩
        · rw [r]
          refine (xg251_25 _ _ _ _ _ _).trans ?_
          rw [e6]
          obtain ⟨w1, w2, _⟩ := W.2 n i (by omega) hi
          simp (disch := omega) only [xi_t, xn_k, xn_lt, xn_eq, xn_mul, xn_add, if_neg, if_pos, if_false, if_true, cond_true, xr_cI_s, m1, e7, xe201 (d + 1) w _ 89 (Or.inl rfl), e9, xm_xs, xs_xs]
          by_cases q : i < pl (n / 2)
          · have ef : fA pl g n i = gN g (48 + 6 * n + i) := by unfold fA; rw [if_pos q]
            rw [if_pos q, w1, ← ef]
            simp (disch := omega) only [xi_t, xn_k, cond_true, c1, xn_add]
          · have ef : fA pl g n i = 10 := by unfold fA; rw [if_neg q]
            rw [if_neg q]
            rw [ef] at c1 ⊢
            simp (disch := omega) only [xi_t, xn_k, cond_true, c1, xn_add]
        · rw [ec]
          by_cases q : fA pl g n i = v
          · subst q
            rw [xw_y (by omega), if_pos rfl]
          · rw [xw_n (by omega), if_neg q, Nat.add_zero]; exact c v hv
        · rw [xw_r q]; exact F b e q
  obtain ⟨M, r, c, F⟩ := lp (2 * nq) (Nat.le_refl _)
  refine ⟨M, ?_, F⟩
  rw [l0, r]
  refine (xg251_25 _ _ _ _ _ _).trans ?_
  have m1 : M 0 73 1 = nI nq := by rw [F 0 73 (by omega)]; exact P.2.1.2.1
  simp (disch := omega) only [xi_t, xn_k, xn_lt, xn_eq, xn_mul, xn_add, xn_sub, xn_dec, xn_m1, xn_1m, if_pos, if_neg, if_true, if_false, cond_true, cond_false, true_and, and_true, false_and, and_false, xr_cI_s, xr_cV_s, xr_cI_e, xr_cV_e, xm_xs, xs_xs, m1]
  refine (xl_up (T := fun k => xr_Run (d + 2) 251 85 [xP 0 69, xI (nI i), xI (nI (hmx (fcnt fl pl g i (2 * nq)) k)), xI (nI k)] [] ([], w) (xs S M)) (n := 11) (fun k hk => ?_)).trans ?_
  · refine (xg251_85 _ _ _ _ _ _).trans ?_
    have c1 := c k hk
    have h1 := fcnt_le (fl := fl) (pl := pl) (g := g) (i := i) (n := 2 * nq) (v := k)
    have h2 : hmx (fcnt fl pl g i (2 * nq)) k ≤ 2 * nq := hmx_le k (fun _ _ => fcnt_le)
    simp (disch := omega) only [xi_t, xn_k, xn_lt, xn_add, if_pos, cond_true, xm_xs, c1, xe154]
    rw [hmx]
    by_cases q : fcnt fl pl g i (2 * nq) k < hmx (fcnt fl pl g i (2 * nq)) k
    · rw [if_pos q, xr_cI_s, Nat.max_eq_left (by omega)]
    · rw [if_neg q, xr_cI_s, Nat.max_eq_right (by omega)]
  · refine (xg251_85 _ _ _ _ _ _).trans ?_
    simp (disch := omega) only [xi_t, xn_k, xn_lt, xn_eq, xn_mul, xn_add, xn_sub, xn_dec, xn_m1, xn_1m, if_pos, if_neg, if_true, if_false, cond_true, cond_false, true_and, and_true, false_and, and_false, xr_cI_s, xr_cV_s, xr_cI_e, xr_cV_e, xm_xs, xs_xs]
    rfl
theorem fm250 (To : xTo (xm S) ln ti fl) {i : Nat} (hi : i < 6) : xr_Call (d + 1) 250 [xP 0 69, xI (nI i)] ([], w) S = some (.inl (some (cond (fl i).isNone (nI 0) (nI 1))), ([], w), S) := by
  obtain ⟨⟨_, o1, o2⟩, t1, t2, t3⟩ := To
  rw [xe250]
  refine (xl_fst (T := fun k => xr_Run d 250 2 [xP 0 69, xI (nI i), xI (nI k)] [] ([], w) S) (R := fun _ => some (.inl (some (nI 1)), ([], w), S)) (c := fun k => decide (ti k = i)) (n := ln) (fun k hk => ?_)).trans ?_
  · refine (xg250_2 _ _ _ _ _).trans ?_
    obtain ⟨r1, r2, _⟩ := t2 k hk
    simp (disch := omega) only [xi_t, xn_k, xn_lt, xn_eq, xn_add, if_pos, cond_true, o1, r1, Bool.cond_decide]
  · cases hx : xfst (fun k => decide (ti k = i)) ln 0 with
    | some k =>
      obtain ⟨_, h2, h3, _⟩ := xfst_some _ _ _ hx
      obtain ⟨_, _, v, r3, _⟩ := t2 k (by omega)
      rw [of_decide_eq_true h3] at r3
      rw [r3]
      rfl
    | none =>
      have hn : fl i = none := by
        cases hq : fl i with
        | none => rfl
        | some v =>
          obtain ⟨k, hk, e⟩ := t3 i v hi hq
          exact absurd e (of_decide_eq_false (xfst_none _ _ hx k (by omega) (by omega)))
      rw [hn]
      refine (xg250_2 _ _ _ _ _).trans ?_
      simp (disch := omega) only [xi_t, xn_k, xn_lt, xn_eq, xn_mul, xn_add, xn_sub, xn_dec, xn_m1, xn_1m, if_pos, if_neg, if_true, if_false, cond_true, cond_false, true_and, and_true, false_and, and_false, xr_cI_s, xr_cV_s, xr_cI_e, xr_cV_e, xm_xs, xs_xs, o1, Nat.lt_irrefl, Option.isNone]
theorem q_feel (I : xIq (xm S) np nq ch st du pl dy dp sz kd gv g h s ln ti fl) (a : Int32) : qRes d 123 252 [xI a] S 0 1 := by
  obtain ⟨P, ⟨Lc, Lm, Lv⟩, ⟨e89, G, W⟩, ⟨Hc, Hm, HI⟩, To⟩ := id I; obtain ⟨⟨p0, p1, p2, p3⟩, ⟨m0, m1, m2, m3⟩, ⟨b0, b1, b2, b3, b4⟩, hp, hd⟩ := id P
  by_cases q : xrg a 0 1
  · obtain ⟨k, _, hk, rfl⟩ := q
    have lc : ∀ n, n ≤ 6 → ∃ M v, xr_Run (d + 59) 123 14 [xP 0 0, xI (nI k), xI (-1), xI (-1), xI (nI 0), xU] [] xMd S = xr_Run (d + 59) 123 14 [xP 0 0, xI (nI k), xI (oI1 (ffeel fl pl g nq n)), xI (oI2 (ffeel fl pl g nq n)), xI (nI n), v] [] xMd (xs S M) ∧ ∀ b e, ¬ (b = 0 ∧ e = 65) → M b e = xm S b e := by
      intro n
      induction n with
      | zero => intro _; exact ⟨xm S, xU, by rw [xs_xm]; rfl, fun _ _ _ => rfl⟩
      | succ n ih =>
        intro hn
        obtain ⟨M, v, r, F⟩ := ih (by omega)
        have P1 : xPl (xm (xs S M)) np nq ch st du pl dy dp := xPl_fr (fun b e he => F b e (by omega)) P
        have G1 : xGr (xm (xs S M)) 0 3 np nq pl g := xGr_fr (fun e h1 h2 => F 0 e (by omega)) G
        have T1 : xTo (xm (xs S M)) ln ti fl := xTo_fr (F 0 63 (by omega)) (F 0 64 (by omega)) (fun k => F k 1084 (by omega)) (congrFun (F 0 69 (by omega)) 35) To
        have t1 := (T1.2.1 n (by omega)).1
        rw [xm_xs] at t1
        have es : ffeel fl pl g nq (n + 1) = geas1 (cond (fl n).isNone (some (fwst fl pl g nq n)) none) n (ffeel fl pl g nq n) := rfl
        have hb := ffeel_b (fl := fl) (pl := pl) (g := g) b1 n (by omega)
        have hw := fwst_le (fl := fl) (pl := pl) (g := g) (nq := nq) (i := n)
        cases hf : fl n with
        | some u =>
          rw [hf] at es t1
          have hu := (T1.2.1 n (by omega)).2 u hf
          refine ⟨M, v, ?_, F⟩
          rw [r, es]
          refine (xg123_14 _ _ _ _ _ _ _).trans ?_
          simp (disch := omega) only [xi_t, xn_k, xn_lt, xn_eq, xn_mul, xn_add, xn_sub, xn_dec, xn_m1, xn_1m, if_pos, if_neg, if_true, if_false, cond_true, cond_false, true_and, and_true, false_and, and_false, xr_cI_s, xr_cV_s, xr_cI_e, xr_cV_e, xm_xs, xs_xs, t1, oI, Option.isNone, geas1]
        | none =>
          rw [hf] at es t1
          obtain ⟨M2, r2, F2⟩ := fc98 (d := d + 56) (w := [35, 44, 53, 58, 63, 66]) P1 G1 W T1 (i := n) (by omega)
          refine ⟨M2, xI (nI (fwst fl pl g nq n)), ?_, fun b e h => by rw [F2 b e h]; exact F b e h⟩
          rw [r, es]
          refine (xg123_14 _ _ _ _ _ _ _).trans ?_
          rw [r2]
          simp (disch := omega) only [xi_t, xn_k, xn_lt, xn_eq, xn_mul, xn_add, xn_sub, xn_dec, xn_m1, xn_1m, if_pos, if_neg, if_true, if_false, cond_true, cond_false, true_and, and_true, false_and, and_false, xr_cI_s, xr_cV_s, xr_cI_e, xr_cV_e, xm_xs, xs_xs, t1, oI, Option.isNone, geas1]
          cases ho : ffeel fl pl g nq n with
          | none => simp (disch := omega) only [xi_t, xn_k, xn_lt, xn_eq, xn_mul, xn_add, xn_sub, xn_dec, xn_m1, xn_1m, if_pos, if_neg, if_true, if_false, cond_true, cond_false, true_and, and_true, false_and, and_false, xr_cI_s, xr_cV_s, xr_cI_e, xr_cV_e, xm_xs, xs_xs, oI1_n, oI1_s, oI2_s]
          | some bc =>
            obtain ⟨b0, c0⟩ := bc
            obtain ⟨h1, h2⟩ := hb b0 c0 ho
            simp (disch := omega) only [xi_t, xn_k, xn_lt, xn_eq, xn_mul, xn_add, xn_sub, xn_dec, xn_m1, xn_1m, if_pos, if_neg, if_true, if_false, cond_true, cond_false, true_and, and_true, false_and, and_false, xr_cI_s, xr_cV_s, xr_cI_e, xr_cV_e, xm_xs, xs_xs, oI1_s, oI2_s]
            split <;> rfl
    obtain ⟨M1, v1, r1, F1⟩ := lc 6 (Nat.le_refl _)
    have I1 : xIq (xm (xs S (xw M1 0 69 0 (nI 0)))) np nq ch st du pl dy dp sz kd gv g h s ln ti fl := xIq_fr (M := xm S) ⟨fun b e h1 h2 h3 => by rw [xm_xs, xw_r (by omega), F1 b e (by omega)], by rw [xm_xs, xw_n (by omega), F1 0 69 (by omega)], by rw [xm_xs, xw_n (by omega), F1 0 69 (by omega)]⟩ I
    have lm : ∀ n, n ≤ 6 → ∃ M v, xr_Run (d + 59) 252 37 [xP 0 69, xI (nI k), xI (-1), xI (-1), xI (nI 0), xU] [] xMd (xs S (xw M1 0 69 0 (nI 0))) = xr_Run (d + 59) 252 37 [xP 0 69, xI (nI k), xI (oI1 (ffeel fl pl g nq n)), xI (oI2 (ffeel fl pl g nq n)), xI (nI n), v] [] xMd (xs S M) ∧ ∀ b e, ¬ (b = 0 ∧ e = 94) → M b e = xw M1 0 69 0 (nI 0) b e := by
      intro n
      induction n with
      | zero => intro _; exact ⟨xw M1 0 69 0 (nI 0), xU, rfl, fun _ _ _ => rfl⟩
      | succ n ih =>
        intro hn
        obtain ⟨M, v, r, F⟩ := ih (by omega)
        have I2 : xIq (xm (xs S M)) np nq ch st du pl dy dp sz kd gv g h s ln ti fl := xIq_fr (M := xw M1 0 69 0 (nI 0)) ⟨fun b e h1 h2 h3 => by rw [xm_xs, F b e (by omega)], by rw [xm_xs, F 0 69 (by omega)], by rw [xm_xs, F 0 69 (by omega)]⟩ I1
        obtain ⟨P1, _, ⟨e9, _, _⟩, _, T1⟩ := I2
        have es : ffeel fl pl g nq (n + 1) = geas1 (cond (fl n).isNone (some (fwst fl pl g nq n)) none) n (ffeel fl pl g nq n) := rfl
        have hb := ffeel_b (fl := fl) (pl := pl) (g := g) b1 n (by omega)
        have hw := fwst_le (fl := fl) (pl := pl) (g := g) (nq := nq) (i := n)
        have e5 := fm250 (d := d + 58) (w := [35, 44, 53, 58, 63, 66]) T1 (i := n) (by omega)
        cases hf : fl n with
        | some u =>
          rw [hf] at es e5
          refine ⟨M, v, ?_, F⟩
          rw [r, es]
          refine (xg252_37 _ _ _ _ _ _ _ _).trans ?_
          rw [e5]
          simp (disch := omega) only [xi_t, xn_k, xn_lt, xn_eq, xn_mul, xn_add, xn_sub, xn_dec, xn_m1, xn_1m, if_pos, if_neg, if_true, if_false, cond_true, cond_false, true_and, and_true, false_and, and_false, xr_cI_s, xr_cV_s, xr_cI_e, xr_cV_e, xm_xs, xs_xs, Option.isNone, geas1]
        | none =>
          rw [hf] at es e5
          obtain ⟨M2, r2, F2⟩ := fm251 (d := d + 56) (w := [35, 44, 53, 58, 63, 66]) P1 e9 W T1 (i := n) (by omega)
          refine ⟨M2, xI (nI (fwst fl pl g nq n)), ?_, fun b e h => by rw [F2 b e h]; exact F b e h⟩
          rw [r, es]
          refine (xg252_37 _ _ _ _ _ _ _ _).trans ?_
          rw [e5]
          simp (disch := omega) only [xi_t, xn_k, xn_lt, xn_eq, xn_mul, xn_add, xn_sub, xn_dec, xn_m1, xn_1m, if_pos, if_neg, if_true, if_false, cond_true, cond_false, true_and, and_true, false_and, and_false, xr_cI_s, xr_cV_s, xr_cI_e, xr_cV_e, xm_xs, xs_xs, Option.isNone, r2, geas1]
          cases ho : ffeel fl pl g nq n with
          | none => simp (disch := omega) only [xi_t, xn_k, xn_lt, xn_eq, xn_mul, xn_add, xn_sub, xn_dec, xn_m1, xn_1m, if_pos, if_neg, if_true, if_false, cond_true, cond_false, true_and, and_true, false_and, and_false, xr_cI_s, xr_cV_s, xr_cI_e, xr_cV_e, xm_xs, xs_xs, oI1_n, oI1_s, oI2_s]
          | some bc =>
            obtain ⟨b0, c0⟩ := bc
            obtain ⟨h1, h2⟩ := hb b0 c0 ho
            simp (disch := omega) only [xi_t, xn_k, xn_lt, xn_eq, xn_mul, xn_add, xn_sub, xn_dec, xn_m1, xn_1m, if_pos, if_neg, if_true, if_false, cond_true, cond_false, true_and, and_true, false_and, and_false, xr_cI_s, xr_cV_s, xr_cI_e, xr_cV_e, xm_xs, xs_xs, oI1_s, oI2_s]
            split <;> rfl
    obtain ⟨M2, v2, r2, F2⟩ := lm 6 (Nat.le_refl _)
    refine Or.inl ⟨if k = 0 then oI1 (ffeel fl pl g nq 6) else oI2 (ffeel fl pl g nq 6), M1, M2, ?_, ?_, ?_, fun b e h => ?_, fun j h1 h2 => ?_⟩
    · rw [xe123]
      simp (disch := omega) only [xr_cV_s, qc141y (Nat.zero_le k) hk]
      rw [r1]
      refine (xg123_14 _ _ _ _ _ _ _).trans ?_
      simp (disch := omega) only [xi_t, xn_k, xn_lt, xn_eq, xn_mul, xn_add, xn_sub, xn_dec, xn_m1, xn_1m, if_pos, if_neg, if_true, if_false, cond_true, cond_false, true_and, and_true, false_and, and_false, xr_cI_s, xr_cV_s, xr_cI_e, xr_cV_e, xm_xs, xs_xs]
      split <;> rfl
    · rw [xe252]
      have e0 : xm (xs S (xw M1 0 69 0 (nI 0))) 0 69 0 = nI 0 := by rw [xm_xs, xw_y (by omega)]
      simp (disch := omega) only [xi_t, xn_k, xn_lt, xn_eq, xn_mul, xn_add, xn_sub, xn_dec, xn_m1, xn_1m, if_pos, if_neg, if_true, if_false, cond_true, cond_false, true_and, and_true, false_and, and_false, xr_cI_s, xr_cV_s, xr_cI_e, xr_cV_e, xm_xs, xs_xs, qm152y (Nat.zero_le k) hk, qm151f _ _ e0]
      rw [r2]
      refine (xg252_37 _ _ _ _ _ _ _ _).trans ?_
      simp (disch := omega) only [xi_t, xn_k, xn_lt, xn_eq, xn_mul, xn_add, xn_sub, xn_dec, xn_m1, xn_1m, if_pos, if_neg, if_true, if_false, cond_true, cond_false, true_and, and_true, false_and, and_false, xr_cI_s, xr_cV_s, xr_cI_e, xr_cV_e, xm_xs, xs_xs]
      split <;> rfl
    · rw [F2 0 69 (by omega), xw_y (by omega)]
    · rw [F2 b e (by omega), xw_r (by omega), F1 b e (by omega)]
    · rw [F2 0 69 (by omega), xw_n (by omega), F1 0 69 (by omega)]
  · refine Or.inr (Or.inr ⟨by omega, qNo_of (nI 0) (by omega) ?_ (fun T hT => ?_)⟩)
    · rw [xe123]; simp (disch := omega) only [xi_t, xn_k, xn_lt, xn_eq, xn_mul, xn_add, xn_sub, xn_dec, xn_m1, xn_1m, if_pos, if_neg, if_true, if_false, cond_true, cond_false, true_and, and_true, false_and, and_false, xr_cI_s, xr_cV_s, xr_cI_e, xr_cV_e, xm_xs, xs_xs, qc141n (by omega) (by omega) q]
    · rw [xe252]; have e0 : xm (xs T (xw (xm T) 0 69 0 (nI 0))) 0 69 0 = nI 0 := (by rw [xm_xs, xw_y (by omega)])
      simp (disch := omega) only [xi_t, xn_k, xn_lt, xn_eq, xn_mul, xn_add, xn_sub, xn_dec, xn_m1, xn_1m, if_pos, if_neg, if_true, if_false, cond_true, cond_false, true_and, and_true, false_and, and_false, xr_cI_s, xr_cV_s, xr_cI_e, xr_cV_e, xm_xs, xs_xs, qm152n (by omega) (by omega) q, qm151t (t := 1) (r := 1) (by omega) (by omega) (by omega) e0]
end
