/-! QUESTIONS, 12: ahead; draws; the goats' heap -/
section
variable {sz : Nat} {kd : Nat → Nat} {gv : Nat → Int32} {pl : Nat → Nat} {dy : Nat → Int32} {nq : Nat} {g g' : Nat → Int32}
theorem gyk_cong (n2 : nq ≤ 8) (hn : ∀ p, p < nq → pl p ≤ 6) (h : ∀ p, p < nq → ∀ j, pidx p j → g j = g' j) : ∀ k p, p < nq → ∀ j, pidx p j → gyk sz kd gv pl dy nq g k j = gyk sz kd gv pl dy nq g' k j
  | 0, p, hp, j, hj => h p hp j hj
  | k + 1, p, hp, j, hj => by
    show gyear sz kd gv pl dy nq (gyk sz kd gv pl dy nq g k) j = gyear sz kd gv pl dy nq (gyk sz kd gv pl dy nq g' k) j
    have ih := gyk_cong n2 hn h k p hp
    rw [gyear_p n2 hn hp ih j hj, gyear_p n2 hn hp (g := gyk sz kd gv pl dy nq g' k) (g' := gyk sz kd gv pl dy nq g' k) (fun _ _ => rfl) j hj]
theorem xgW_lo {np : Nat} (n2 : nq ≤ 8) (e : ∀ j, j < 145 → g' j = g j) (W : xgW np nq pl g) : xgW np nq pl g' := by
  refine ⟨fun k hk => ?_, fun k i hk hi => ?_⟩
  · unfold gN; rw [e _ (by omega)]; exact W.1 k hk
  · unfold gN; rw [e _ (by omega)]; exact W.2 k i hk hi
end
section
variable {d : Nat} {w : List Nat} {S : xr_S} {np nq ch st : Nat} {du pl : Nat → Nat} {dy : Nat → Int32} {dp : Nat → Nat → Nat} {sz : Nat} {kd : Nat → Nat} {gv g : Nat → Int32} {h : Nat → Nat} {s : Nat → Nat → Int32} {ln : Nat} {ti : Nat → Nat} {fl : Nat → Option Nat}
theorem yc144 (I : xIq (xm S) np nq ch st du pl dy dp sz kd gv g h s ln ti fl) {n : Nat} (hn : n ≤ 100) : ∃ M g', xr_Call (d + 10) 144 [xP 0 0, xI (nI n)] xMd S = some (.inl none, xMd, xs S M) ∧ xGr M 0 12 np nq pl g' ∧ xgW np nq pl g' ∧ (∀ p, p < nq → g' (8 + p) = gyk sz kd gv pl dy nq g n (8 + p)) ∧ (g' = gyk sz kd gv pl dy nq g n ∨ gno nq g') ∧ ∀ b e, ¬ (b = 0 ∧ ((12 ≤ e ∧ e ≤ 20) ∨ e = 56 ∨ e = 57)) → M b e = xm S b e := by
  obtain ⟨P, ⟨Lc, Lm, Lv⟩, ⟨e89, G, W⟩, ⟨Hc, Hm, HI⟩, To⟩ := id I; obtain ⟨⟨p0, p1, p2, p3⟩, ⟨m0, m1, m2, m3⟩, ⟨b0, b1, b2, b3, b4⟩, hp, hd⟩ := id P
  have n3 : ∀ p, p < nq → pl p ≤ 6 := fun p hpq => (hp p hpq).2.2.2.2.2.2.2.2
  obtain ⟨M1, r1, C1, F1⟩ := gc6a (d := d + 7) (w := [35, 44, 53, 58, 63, 66]) (S := S)
  have lc : ∀ (m j : Nat) (M : xr_M), j + m = n → xGr M 0 12 np nq pl (gyk sz kd gv pl dy nq g j) → (∀ b e, ¬ (b = 0 ∧ ((12 ≤ e ∧ e ≤ 20) ∨ e = 56 ∨ e = 57)) → M b e = xm S b e) → ∃ M' g', xr_Run (d + 9) 144 13 [xP 0 0, xI (nI n), xI (nI j)] [] xMd (xs S M) = some (.inl none, xMd, xs S M') ∧ xGr M' 0 12 np nq pl g' ∧ xgW np nq pl g' ∧ (∀ p, p < nq → g' (8 + p) = gyk sz kd gv pl dy nq g n (8 + p)) ∧ (g' = gyk sz kd gv pl dy nq g n ∨ gno nq g') ∧ ∀ b e, ¬ (b = 0 ∧ ((12 ≤ e ∧ e ≤ 20) ∨ e = 56 ∨ e = 57)) → M' b e = xm S b e := by
    intro m
    induction m with
    | zero =>
      intro j M hj G1 F
      have e : j = n := by omega
      subst e
      refine ⟨M, _, ?_, G1, xgW_gyk W b1 n3 j, fun _ _ => rfl, Or.inl rfl, F⟩
      refine (xg144_13 _ _ _ _).trans ?_
      rw [if_neg (by rw [xn_lt (by omega) (by omega)]; omega)]
    | succ m ih =>
      intro j M hj G1 F
      have W1 : xgW np nq pl (gyk sz kd gv pl dy nq g j) := xgW_gyk W b1 n3 j
      have P1 : xPl (xm (xs S M)) np nq ch st du pl dy dp := xPl_fr (fun b e he => F b e (by omega)) P
      have L1 : xLc (xm (xs S M)) sz kd gv := xLc_fr (fun e he => F 0 e (by omega)) Lc
      have r7 := gc17 (d := d + 8) (w := [35, 44, 53, 58, 63, 66]) (S := xs S M) (Or.inr rfl) P1 G1 (nI 0)
      have hl := xsN_le1 (g := fun k => if gyk sz kd gv pl dy nq g j (8 + k) = nI 0 then 1 else 0) nq (fun k _ => by split <;> omega)
      by_cases q : 0 < xsN (fun k => if gyk sz kd gv pl dy nq g j (8 + k) = nI 0 then 1 else 0) nq
      · obtain ⟨M2, r2, G2, F2⟩ := gc11 (d := d + 4) (w := [35, 44, 53, 58, 63, 66]) (S := xs S M) (Or.inr rfl) Lv W1 P1 L1 G1
        rw [xs_xs] at r2
        rw [xm_xs] at F2
        obtain ⟨M3, g3, r3, c3⟩ := ih (j + 1) M2 (by omega) G2 (fun b e h => by rw [F2 b e (by omega), F b e h])
        refine ⟨M3, g3, ?_, c3⟩
        refine (xg144_13 _ _ _ _).trans ?_
        rw [if_pos (by rw [xn_lt (by omega) (by omega)]; omega), r7, xr_cI_s, if_pos (by rw [xn_lt (by omega) (by omega)]; exact q), r2, xr_cV_s, xn_add, r3]
      · have no : gno nq (gyk sz kd gv pl dy nq g j) := fun p hpq h9 => by
          have := xsN_mem (g := fun k => if gyk sz kd gv pl dy nq g j (8 + k) = nI 0 then 1 else 0) (x := p) nq hpq
          rw [if_pos h9] at this
          omega
        refine ⟨M, gyk sz kd gv pl dy nq g j, ?_, G1, W1, fun p hpq => ?_, Or.inr no, F⟩
        · refine (xg144_13 _ _ _ _).trans ?_
          rw [if_pos (by rw [xn_lt (by omega) (by omega)]; omega), r7, xr_cI_s, if_neg (by rw [xn_lt (by omega) (by omega)]; exact q)]
        · rw [show n = j + (m + 1) by omega, gyk_add, gyk_no b1 no (m + 1) (8 + p) (by omega)]
  obtain ⟨M2, g2, r2, c2⟩ := lc n 0 M1 (by omega) (xGr_cp C1 b0 b1 n3 G) (fun b e h => F1 b e (by omega))
  exact ⟨M2, g2, by rw [xe144, r1, xr_cV_s, r2], c2⟩
def gmeet (nq ch : Nat) (pl : Nat → Nat) (g : Nat → Int32) : Nat := xsN (fun k => if g (8 + k) = nI 0 ∧ gap g (2 * k) (2 * k + 1) (pl k) ≤ ch then 1 else 0) nq
def gcnt (nq : Nat) (g : Nat → Int32) (v : Int32) : Nat := xsN (fun k => if g (8 + k) = v then 1 else 0) nq
theorem q_ahead (I : xIq (xm S) np nq ch st du pl dy dp sz kd gv g h s ln ti fl) (a b : Int32) : qRes d 133 259 [xI a, xI b] S 0 1 := by
  obtain ⟨P, ⟨Lc, Lm, Lv⟩, ⟨e89, G, W⟩, ⟨Hc, Hm, HI⟩, To⟩ := id I; obtain ⟨⟨p0, p1, p2, p3⟩, ⟨m0, m1, m2, m3⟩, ⟨b0, b1, b2, b3, b4⟩, hp, hd⟩ := id P
  have n3 : ∀ p, p < nq → pl p ≤ 6 := fun p hpq => (hp p hpq).2.2.2.2.2.2.2.2
  by_cases q : xrg a 0 100
  · obtain ⟨n, _, hn, rfl⟩ := q
    by_cases q2 : xrg b 0 2
    · obtain ⟨k, _, hk, rfl⟩ := q2
      obtain ⟨M1, g1, r1, G1, W1, e1, c1, F1⟩ := yc144 (d := d + 49) I hn
      have P1 : xPl (xm (xs S M1)) np nq ch st du pl dy dp := xPl_fr (fun b e he => F1 b e (by omega)) P
      have I1 : xIq (xm (xs S (xw M1 0 69 0 (nI 0)))) np nq ch st du pl dy dp sz kd gv g h s ln ti fl := xIq_fr (M := xm S) ⟨fun b e h1 h2 h3 => by rw [xm_xs, xw_r (by omega), F1 b e (by omega)], by rw [xm_xs, xw_n (by omega), F1 0 69 (by omega)], by rw [xm_xs, xw_n (by omega), F1 0 69 (by omega)]⟩ I
      obtain ⟨M3, r3, C3, F3⟩ := gm177a (d := d + 58) (w := [35, 44, 53, 58, 63, 66]) (S := xs S (xw M1 0 69 0 (nI 0)))
      rw [xs_xs] at r3
      rw [xm_xs] at C3 F3
      have e90 : ∀ j, j < 793 → M3 0 90 j = g j := fun j hj => by
        rw [C3 j hj]
        have := I1.2.2.1.1
        rw [xm_xs] at this
        rw [this]
      have lm : ∀ m, m ≤ n → ∃ M, xr_Run (d + 59) 259 53 [xP 0 69, xI (nI n), xI (nI k), xI (nI 0), xU] [] xMd (xs S M3) = xr_Run (d + 59) 259 53 [xP 0 69, xI (nI n), xI (nI k), xI (nI m), xU] [] xMd (xs S M) ∧ M 0 90 = gyk sz kd gv pl dy nq (M3 0 90) m ∧ ∀ b e, ¬ (b = 0 ∧ (e = 90 ∨ e = 86 ∨ e = 87)) → M b e = xw M1 0 69 0 (nI 0) b e := by
        intro m
        induction m with
        | zero => intro _; exact ⟨M3, rfl, rfl, fun b e h => F3 b e (by omega)⟩
        | succ m ih =>
          intro hm
          obtain ⟨M, r, c, F⟩ := ih (by omega)
          have I2 : xIq (xm (xs S M)) np nq ch st du pl dy dp sz kd gv g h s ln ti fl := xIq_fr (M := xw M1 0 69 0 (nI 0)) ⟨fun b e h1 h2 h3 => by rw [xm_xs, F b e (by omega)], by rw [xm_xs, F 0 69 (by omega)], by rw [xm_xs, F 0 69 (by omega)]⟩ I1
          have W2 : xgW np nq pl (M 0 90) := by rw [c]; exact xgW_gyk (xgW_cg b1 e90 W) b1 n3 m
          obtain ⟨M4, r4, G4, F4⟩ := gm209 (d := d + 54) (w := [35, 44, 53, 58, 63, 66]) (S := xs S M) (g := M 0 90) (Or.inr rfl) Lv W2 I2.1 I2.2.1.2.1 rfl
          rw [xs_xs] at r4
          rw [xm_xs] at F4
          refine ⟨M4, ?_, by rw [G4, c]; rfl, fun b e h => by rw [F4 b e (by omega), F b e h]⟩
          rw [r]
          refine (xg259_53 _ _ _ _ _ _).trans ?_
          rw [if_pos (by rw [xn_lt (by omega) (by omega)]; omega), r4, xr_cV_s, xn_add]
      obtain ⟨M4, r4, c4, F4⟩ := lm n (Nat.le_refl _)
      have I2 : xIq (xm (xs S M4)) np nq ch st du pl dy dp sz kd gv g h s ln ti fl := xIq_fr (M := xw M1 0 69 0 (nI 0)) ⟨fun b e h1 h2 h3 => by rw [xm_xs, F4 b e (by omega)], by rw [xm_xs, F4 0 69 (by omega)], by rw [xm_xs, F4 0 69 (by omega)]⟩ I1
      have W4 : xgW np nq pl (M4 0 90) := by rw [c4]; exact xgW_gyk (xgW_cg b1 e90 W) b1 n3 n
      have cg : ∀ p, p < nq → ∀ j, pidx p j → M4 0 90 j = gyk sz kd gv pl dy nq g n j := fun p hpq j hj => by
        rw [c4]
        exact gyk_cong b1 n3 (fun p hpq j hj => e90 j (by unfold pidx at hj; omega)) n p hpq j hj
      have ecnt : ∀ v, gcnt nq (M4 0 90) v = gcnt nq g1 v := fun v => xsN_congr nq (fun p hpq => by rw [cg p hpq (8 + p) (by unfold pidx; omega), e1 p hpq])
      have emeet : gmeet nq ch pl (M4 0 90) = gmeet nq ch pl g1 := xsN_congr nq (fun p hpq => by
        rw [cg p hpq (8 + p) (by unfold pidx; omega), gap_cong (n3 p hpq) (cg p hpq), ← e1 p hpq]
        rcases c1 with h1 | h1
        · rw [h1]
        · have := h1 p hpq
          rw [if_neg (fun h9 => this h9.1), if_neg (fun h9 => this h9.1)])
      refine Or.inl ⟨if k = 2 then nI (gmeet nq ch pl g1) else if k = 0 then nI (gcnt nq g1 (nI 0)) else nI (gcnt nq g1 (nI 2)), M1, M4, ?_, ?_, ?_, fun b e h => ?_, fun j h1 h2 => ?_⟩
      · rw [xe133, qc141y (Nat.zero_le n) hn (by omega), xr_cV_s, qc141y (Nat.zero_le k) hk (by omega), xr_cV_s, r1, xr_cV_s, gc19 (Or.inr rfl) P1 G1 W1, gc17 (Or.inr rfl) P1 G1, gc17 (Or.inr rfl) P1 G1, xr_cI_s, xr_cI_s, xr_cI_s]
        simp (disch := omega) only [xn_eq]
        by_cases q3 : k = 2
        · simp only [q3, if_true]; rfl
        · by_cases q4 : k = 0
          · simp only [q3, q4, if_true, if_false]; rfl
          · simp only [q3, q4, if_false]; rfl
      · rw [xe259]
        have e0 : xm (xs S (xw M1 0 69 0 (nI 0))) 0 69 0 = nI 0 := by rw [xm_xs, xw_y (by omega)]
        rw [xm_xs, xs_xs, qm152y (Nat.zero_le n) hn (by omega), xr_cI_s, if_neg (by rw [xn_eq (by omega) (by omega)]; omega), qm152y (Nat.zero_le k) hk (by omega), xr_cI_s, if_neg (by rw [xn_eq (by omega) (by omega)]; omega), qm151f _ _ e0, xr_cI_s, if_pos rfl, r3, xr_cV_s, r4]
        refine (xg259_53 _ _ _ _ _ _).trans ?_
        rw [if_neg (by rw [xn_lt (by omega) (by omega)]; omega)]
        by_cases q3 : k < 2
        · rw [if_pos (by rw [xn_lt (by omega) (by omega)]; exact q3), xn_mul, gm215 (Or.inr rfl) I2.1, xr_cI_s, if_neg (show ¬ k = 2 by omega), xm_xs]
          rw [show xsN (fun k' => if M4 0 90 (8 + k') = nI (2 * k) then 1 else 0) nq = gcnt nq g1 (nI (2 * k)) from ecnt _]
          rcases (by omega : k = 0 ∨ k = 1) with rfl | rfl
          · rfl
          · rfl
        · rw [if_neg (by rw [xn_lt (by omega) (by omega)]; exact q3), if_pos (show k = 2 by omega)]
          have m1 := I2.1.2.1.2.1
          refine (xl_up (T := fun j => xr_Run (d + 59) 259 94 [xP 0 69, xI (nI n), xI (nI k), xI (nI (xsN (fun k => if M4 0 90 (8 + k) = nI 0 ∧ gap (M4 0 90) (2 * k) (2 * k + 1) (pl k) ≤ ch then 1 else 0) j)), xI (nI j)] [] xMd (xs S M4)) (n := nq) (fun j hj => ?_)).trans ?_
          · refine (xg259_94 _ _ _ _ _ _ _).trans ?_
            have e6 := gm206 (d := d + 58) (w := [35, 44, 53, 58, 63, 66]) (S := xs S M4) (c := 90) (Or.inr rfl) (p := j) (by omega)
            have e5 := gm205 (d := d + 55) (w := [35, 44, 53, 58, 63, 66]) (S := xs S M4) (c := 90) (Or.inr rfl) I2.1 W4 hj
            rw [xm_xs] at e5 e6
            rw [e6]
            unfold bI at *
            by_cases q5 : M4 0 90 (8 + j) = nI 0
            · by_cases q6 : gap (M4 0 90) (2 * j) (2 * j + 1) (pl j) ≤ ch <;> simp (disch := omega) only [e5, xi_t, xn_k, cond_true, m1, xn_lt, if_pos, xr_cI_s, xn_eq, xn_add, xsN, q5, q6, if_true, if_false, Nat.add_zero, and_true, and_false, Nat.reduceEqDiff]
            · simp (disch := omega) only [xi_t, xn_k, cond_true, m1, xn_lt, if_pos, xr_cI_s, xn_eq, xn_add, xsN, q5, if_true, if_false, Nat.add_zero, false_and]
          · refine (xg259_94 _ _ _ _ _ _ _).trans ?_
            rw [xi_t (by omega) (by omega), cond_true, xn_k (by omega), m1, if_neg (by rw [xn_lt (by omega) (by omega)]; omega), show xsN (fun k => if M4 0 90 (8 + k) = nI 0 ∧ gap (M4 0 90) (2 * k) (2 * k + 1) (pl k) ≤ ch then 1 else 0) nq = gmeet nq ch pl g1 from emeet]
      · rw [F4 0 69 (by omega), xw_y (by omega)]
      · rw [F4 b e (by omega), xw_r (by omega), F1 b e (by omega)]
      · rw [F4 0 69 (by omega), xw_n (by omega), F1 0 69 (by omega)]
    · refine Or.inr (Or.inr ⟨by omega, qNo_of (nI 0) (by omega) ?_ (fun T hT => ?_)⟩)
      · rw [xe133]; simp (disch := omega) only [xi_t, xn_k, xn_lt, xn_eq, xn_mul, xn_add, xn_sub, xn_dec, xn_m1, xn_1m, if_pos, if_neg, if_true, if_false, cond_true, cond_false, true_and, and_true, false_and, and_false, xr_cI_s, xr_cV_s, xr_cI_e, xr_cV_e, xm_xs, xs_xs, qc141y (Nat.zero_le n) hn, qc141n (by omega) (by omega) q2]
      · rw [xe259]; have e0 : xm (xs T (xw (xm T) 0 69 0 (nI 0))) 0 69 0 = nI 0 := (by rw [xm_xs, xw_y (by omega)])
        simp (disch := omega) only [xi_t, xn_k, xn_lt, xn_eq, xn_mul, xn_add, xn_sub, xn_dec, xn_m1, xn_1m, if_pos, if_neg, if_true, if_false, cond_true, cond_false, true_and, and_true, false_and, and_false, xr_cI_s, xr_cV_s, xr_cI_e, xr_cV_e, xm_xs, xs_xs, qm152y (Nat.zero_le n) hn, qm152n (by omega) (by omega) q2, qm151t (t := 1) (r := 1) (by omega) (by omega) (by omega) e0]
  · refine Or.inr (Or.inr ⟨by omega, qNo_of (nI 0) (by omega) ?_ (fun T hT => ?_)⟩)
    · rw [xe133]; simp (disch := omega) only [xi_t, xn_k, xn_lt, xn_eq, xn_mul, xn_add, xn_sub, xn_dec, xn_m1, xn_1m, if_pos, if_neg, if_true, if_false, cond_true, cond_false, true_and, and_true, false_and, and_false, xr_cI_s, xr_cV_s, xr_cI_e, xr_cV_e, xm_xs, xs_xs, qc141n (by omega) (by omega) q]
    · rw [xe259]; have e0 : xm (xs T (xw (xm T) 0 69 0 (nI 0))) 0 69 0 = nI 0 := (by rw [xm_xs, xw_y (by omega)])
      simp (disch := omega) only [xi_t, xn_k, xn_lt, xn_eq, xn_mul, xn_add, xn_sub, xn_dec, xn_m1, xn_1m, if_pos, if_neg, if_true, if_false, cond_true, cond_false, true_and, and_true, false_and, and_false, xr_cI_s, xr_cV_s, xr_cI_e, xr_cV_e, xm_xs, xs_xs, qm152n (by omega) (by omega) q, qm151t (t := 1) (r := 1) (by omega) (by omega) (by omega) e0]
end
/-! DRAWS -/
def glot (l : Int32) : Int32 := l * nI 1103515245 + nI 12345
def gdr (l : Int32) : Nat := (l.toBitVec.toNat / 65536) % 32768
theorem gdr_lt (l : Int32) : gdr l < 32768 := Nat.mod_lt _ (by omega)
theorem xnI_of {x : Int32} {n : Nat} (hn : n < 4294967296) (h : x.toBitVec.toNat = n) : x = nI n := by
  apply Int32.toBitVec_inj.mp
  apply BitVec.eq_of_toNat_eq
  rw [h]
  show n = (BitVec.ofNat 32 n).toNat
  rw [BitVec.toNat_ofNat, Nat.mod_eq_of_lt (by omega)]
theorem gdr_b (l : Int32) : ((l.toBitVec >>> 16) &&& 32767#32).toNat = gdr l := by
  rw [BitVec.toNat_and, BitVec.toNat_ushiftRight, Nat.shiftRight_eq_div_pow]
  show l.toBitVec.toNat / 65536 &&& 32767 = _
  rw [show (32767 : Nat) = 2 ^ 15 - 1 from rfl, Nat.and_two_pow_sub_one_eq_mod]
  rfl
theorem gdr_c (l : Int32) : ((l.toUInt32 >>> ((nI 16).toUInt32 &&& Int32.toUInt32 31)).toInt32) &&& nI 32767 = nI (gdr l) := by
  have h1 := gdr_lt l
  refine xnI_of (by omega) ?_
  rw [Int32.toBitVec_and]
  exact gdr_b l
theorem gdr_m (l : Int32) : (l >>> (nI 16 &&& 31)) &&& nI 32767 = nI (gdr l) := by
  have h1 := gdr_lt l
  refine xnI_of (by omega) ?_
  rw [Int32.toBitVec_and, Int32.toBitVec_shiftRight]
  rw [← gdr_b l]
  congr 1
  show l.toBitVec.sshiftRight ((nI 16 &&& 31 : Int32).toBitVec.smod 32).toNat &&& 32767#32 = _
  rw [show ((nI 16 &&& 31 : Int32).toBitVec.smod 32).toNat = 16 by decide +kernel]
  apply BitVec.eq_of_getLsbD_eq
  intro i hi
  rw [BitVec.getLsbD_and, BitVec.getLsbD_and]
  by_cases q : i < 15
  · rw [BitVec.getLsbD_sshiftRight, BitVec.getLsbD_ushiftRight]
    simp [show ¬ 32 ≤ i by omega, show 16 + i < 32 by omega]
  · have : ∀ i : Fin 32, 15 ≤ i.val → (32767#32).getLsbD i.val = false := by decide +kernel
    rw [this ⟨i, hi⟩ (by show 15 ≤ i; omega), Bool.and_false, Bool.and_false]
