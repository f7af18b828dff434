/-! QUESTIONS, 8: safe, tossed, baskets -/
theorem hup_B {h : Nat → Nat} {x n m : Nat} (B : xhB m h) (hn : n ≤ m + 1) : xhB (m + 1) (hup h x n) := by
  intro y hy
  unfold hup
  have := B y hy
  split <;> omega
theorem hset_0 {st n : Nat} {h : Nat → Nat} {s : Nat → Nat → Int32} : ((hset st (n + 1) h s).1 = 0) ↔ hfst st h = none := by
  rw [hset]
  cases hfst st h with
  | none => exact ⟨fun _ => rfl, fun _ => rfl⟩
  | some x =>
    constructor
    · intro q
      exact absurd q (Nat.succ_ne_zero _)
    · intro q; cases q
theorem hset_le {st : Nat} (h1 : 1 ≤ st) : ∀ (n : Nat) (h : Nat → Nat) (s : Nat → Nat → Int32), (hset st n h s).1 ≤ hsq h
  | 0, _, _ => Nat.zero_le _
  | n + 1, h, s => by
    rw [hset]
    cases hf : hfst st h with
    | none => exact Nat.zero_le _
    | some x =>
      obtain ⟨hx, hs⟩ := hfst_some hf
      have := hsq_fall hx hs h1
      have := hset_le h1 n (hfh h x) (hfs h s x)
      show (hset st n (hfh h x) (hfs h s x)).1 + 1 ≤ hsq h
      omega
def hsafe (st : Nat) (h : Nat → Nat) (n : Nat) : Int32 := xfo (fun x b => cond (hfst st (hup h x (h x + 1))).isNone (b ||| (nI 1 <<< (nI x &&& 31))) b) n (nI 0)
section
variable {d : Nat} {w : List Nat} {S : xr_S} {np nq ch st : Nat} {du pl : Nat → Nat} {dy : Nat → Int32} {dp : Nat → Nat → Nat} {sz : Nat} {kd : Nat → Nat} {gv g : Nat → Int32} {h : Nat → Nat} {s : Nat → Nat → Int32} {ln : Nat} {ti : Nat → Nat} {fl : Nat → Option Nat}
/-- what the model's thrownOn does -/
theorem hm240 (P : xPl (xm S) np nq ch st du pl dy dp) (e89 : xm S 0 89 = g) (Hm : xhM g h s) (B : xhB 45 h) {x : Nat} (hx : x < 8) : ∃ M, xr_Call (d + 5) 240 [xP 0 69, xI (nI x)] ([], w) S = some (.inl (some (nI (hset st 17000 (hup h x (h x + 1)) (hus s x (h x) (-3))).1)), ([], w), xs S M) ∧ xhM (M 0 90) (hset st 17000 (hup h x (h x + 1)) (hus s x (h x) (-3))).2.1 (hset st 17000 (hup h x (h x + 1)) (hus s x (h x) (-3))).2.2 ∧ ∀ b e, ¬ (b = 0 ∧ e = 90) → M b e = xm S b e := by
  obtain ⟨⟨p0, p1, p2, p3⟩, ⟨m0, m1, m2, m3⟩, ⟨b0, b1, b2, b3, b4⟩, hp, hd⟩ := P
  have bx := B x hx
  obtain ⟨M1, r1, c1, F1⟩ := gm177a (d := d + 3) (w := w) (S := S)
  have H1 : xhM (xm (xs S M1) 0 90) h s := xhM_cg (g := g) (xhB_le (by omega) B) (fun j hj => by rw [xm_xs, c1 j hj, e89]) Hm
  obtain ⟨M2, r2, H2, F2, _⟩ := hm194 (d := d + 2) (w := w) (S := xs S M1) (Or.inr rfl) H1 (xhB_le (by omega) B) hx (by omega) (-3)
  rw [xs_xs] at r2
  rw [xm_xs] at F2
  have B2 : xhB 46 (hup h x (h x + 1)) := hup_B B (by omega)
  obtain ⟨M3, r3, H3, F3, _⟩ := hm198 (d := d) (w := w) (S := xs S M2) (st := st) (Or.inr rfl) (by omega) b3 H2 (xhB_le (by omega) B2) (n := 17000) (by have := hsq_le B2; omega) (by rw [xm_xs, F2 0 73 (by omega), F1 0 73 (by omega)]; exact m3)
  rw [xs_xs] at r3
  refine ⟨M3, ?_, H3, fun b e q => by rw [F3 b e q, xm_xs, F2 b e q, F1 b e q]⟩
  rw [xe240, r1, xr_cV_s, r2, xr_cV_s, r3, xr_cI_s]
theorem q_safe (I : xIq (xm S) np nq ch st du pl dy dp sz kd gv g h s ln ti fl) : qRes d 117 241 [] S 0 0 := by
  obtain ⟨P, ⟨Lc, Lm, Lv⟩, ⟨e89, G, W⟩, ⟨Hc, Hm, HI⟩, To⟩ := id I; obtain ⟨⟨p0, p1, p2, p3⟩, ⟨m0, m1, m2, m3⟩, ⟨b0, b1, b2, b3, b4⟩, hp, hd⟩ := id P
  have B := hG_B (hI_G HI)
  have lc : ∀ n, n ≤ 8 → ∃ M, xr_Run (d + 59) 117 4 [xP 0 0, xI (nI 0), xI (nI 0)] [] xMd S = xr_Run (d + 59) 117 4 [xP 0 0, xI (hsafe st h n), xI (nI n)] [] xMd (xs S M) ∧ ∀ b e, ¬ (b = 0 ∧ (e = 19 ∨ e = 20)) → M b e = xm S b e := by
    intro n
    induction n with
    | zero => intro _; exact ⟨xm S, by rw [xs_xm]; rfl, fun _ _ _ => rfl⟩
    | succ n ih =>
      intro hn
      obtain ⟨M, r, F⟩ := ih (by omega)
      have bx := B n (by omega)
      obtain ⟨M1, r1, H1, F1⟩ := hc28a_H (d := d + 58) (w := [35, 44, 53, 58, 63, 66]) (S := xs S M) (c := 18) (Or.inl rfl) (xhB_le (by omega) B) (by rw [xm_xs, F 0 10 (by omega), F 0 11 (by omega)]; exact Hc)
      rw [xs_xs] at r1
      rw [xm_xs] at F1
      obtain ⟨M2, r2, H2, F2⟩ := hc29 (d := d + 58) (w := [35, 44, 53, 58, 63, 66]) (S := xs S M1) (c := 18) (Or.inr (Or.inl rfl)) H1 (xhB_le (by omega) B) (x := n) (by omega) (by omega) (-3)
      rw [xs_xs] at r2
      rw [xm_xs] at F2
      have B2 : xhB 46 (hup h n (h n + 1)) := hup_B B (by omega)
      have e3 : M2 0 35 3 = nI st := by rw [F2 0 35 (by omega), F1 0 35 (by omega), F 0 35 (by omega)]; exact p3
      have r3 := hc34 (d := d + 57) (w := [35, 44, 53, 58, 63, 66]) (S := xs S M2) (c := 18) (Or.inr (Or.inl rfl)) H2 (xhB_le (by omega) B2) (st := st) (by omega)
      refine ⟨M2, ?_, fun b e q => by rw [F2 b e (by omega), F1 b e (by omega), F b e (by omega)]⟩
      rw [r]
      refine (xg117_4 _ _ _ _).trans ?_
      simp (disch := omega) only [xn_lt, xn_add, if_pos, r1, xr_cV_s, r2, xm_xs, e3, r3, xr_cI_s]
      unfold hsafe
      rw [xfo]
      cases hf : hfst st (hup h n (h n + 1)) with
      | none => simp (disch := omega) only [xi_t, xn_k, xn_lt, xn_eq, xn_mul, xn_add, xn_sub, xn_dec, xn_m1, xn_1m, if_pos, if_neg, if_true, if_false, cond_true, cond_false, true_and, and_true, false_and, and_false, xr_cI_s, xr_cV_s, xr_cI_e, xr_cV_e, xm_xs, xs_xs, oI, Option.isNone]
      | some y =>
        have := (hfst_some hf).1
        simp (disch := omega) only [xi_t, xn_k, xn_lt, xn_eq, xn_mul, xn_add, xn_sub, xn_dec, xn_m1, xn_1m, if_pos, if_neg, if_true, if_false, cond_true, cond_false, true_and, and_true, false_and, and_false, xr_cI_s, xr_cV_s, xr_cI_e, xr_cV_e, xm_xs, xs_xs, oI, Option.isNone]
  obtain ⟨M1, r1, F1⟩ := lc 8 (Nat.le_refl _)
  have I1 : xIq (xm (xs S (xw M1 0 69 0 (nI 0)))) np nq ch st du pl dy dp sz kd gv g h s ln ti fl := xIq_fr (M := xm S) ⟨fun b e h1 h2 h3 => by rw [xm_xs, xw_r (by omega), F1 b e (by omega)], by rw [xm_xs, xw_n (by omega), F1 0 69 (by omega)], by rw [xm_xs, xw_n (by omega), F1 0 69 (by omega)]⟩ I
  have lm : ∀ n, n ≤ 8 → ∃ M, xr_Run (d + 59) 241 9 [xP 0 69, xI (nI 0), xI (nI 0)] [] xMd (xs S (xw M1 0 69 0 (nI 0))) = xr_Run (d + 59) 241 9 [xP 0 69, xI (hsafe st h n), xI (nI n)] [] xMd (xs S M) ∧ ∀ b e, ¬ (b = 0 ∧ e = 90) → M b e = xw M1 0 69 0 (nI 0) b e := by
    intro n
    induction n with
    | zero => intro _; exact ⟨xw M1 0 69 0 (nI 0), rfl, fun _ _ _ => rfl⟩
    | succ n ih =>
      intro hn
      obtain ⟨M, r, F⟩ := ih (by omega)
      have I2 : xIq (xm (xs S M)) np nq ch st du pl dy dp sz kd gv g h s ln ti fl := xIq_fr (M := xw M1 0 69 0 (nI 0)) ⟨fun b e h1 h2 h3 => by rw [xm_xs, F b e (by omega)], by rw [xm_xs, F 0 69 (by omega)], by rw [xm_xs, F 0 69 (by omega)]⟩ I1
      obtain ⟨M2, r2, _, F2⟩ := hm240 (d := d + 54) (w := [35, 44, 53, 58, 63, 66]) I2.1 I2.2.2.1.1 Hm B (x := n) (by omega)
      rw [xs_xs] at r2
      rw [xm_xs] at F2
      refine ⟨M2, ?_, fun b e q => by rw [F2 b e q, F b e q]⟩
      rw [r]
      refine (xg241_9 _ _ _ _ _).trans ?_
      have B2 : xhB 46 (hup h n (h n + 1)) := hup_B B (by have := B n (by omega); omega)
      have hl := hset_le (st := st) b3 17000 (hup h n (h n + 1)) (hus s n (h n) (-3))
      have := hsq_le B2
      have h0 := hset_0 (st := st) (n := 16999) (h := hup h n (h n + 1)) (s := hus s n (h n) (-3))
      simp (disch := omega) only [xn_lt, xn_add, xn_eq, if_pos, r2, xr_cI_s]
      unfold hsafe
      rw [xfo]
      cases hf : hfst st (hup h n (h n + 1)) with
      | none =>
        rw [if_pos (h0.mpr hf)]
        rfl
      | some y =>
        rw [if_neg (fun q => by have := h0.mp q; rw [hf] at this; cases this), xn_or0]
        rfl
  obtain ⟨M2, r2, F2⟩ := lm 8 (Nat.le_refl _)
  refine Or.inl ⟨hsafe st h 8, M1, M2, ?_, ?_, ?_, fun b e h => ?_, fun j h1 h2 => ?_⟩
  · rw [xe117, r1]
    refine (xg117_4 _ _ _ _).trans ?_
    simp (disch := omega) only [xi_t, xn_k, xn_lt, xn_eq, xn_mul, xn_add, xn_sub, xn_dec, xn_m1, xn_1m, if_pos, if_neg, if_true, if_false, cond_true, cond_false, true_and, and_true, false_and, and_false, xr_cI_s, xr_cV_s, xr_cI_e, xr_cV_e, xm_xs, xs_xs]
  · rw [xe241, xm_xs, xs_xs, r2]
    refine (xg241_9 _ _ _ _ _).trans ?_
    simp (disch := omega) only [xi_t, xn_k, xn_lt, xn_eq, xn_mul, xn_add, xn_sub, xn_dec, xn_m1, xn_1m, if_pos, if_neg, if_true, if_false, cond_true, cond_false, true_and, and_true, false_and, and_false, xr_cI_s, xr_cV_s, xr_cI_e, xr_cV_e, xm_xs, xs_xs]
  · rw [F2 0 69 (by omega), xw_y (by omega)]
  · rw [F2 b e (by omega), xw_r (by omega), F1 b e (by omega)]
  · rw [F2 0 69 (by omega), xw_n (by omega), F1 0 69 (by omega)]
theorem q_tossed (I : xIq (xm S) np nq ch st du pl dy dp sz kd gv g h s ln ti fl) (a b : Int32) : qRes d 118 242 [xI a, xI b] S 0 1 := by
  obtain ⟨P, ⟨Lc, Lm, Lv⟩, ⟨e89, G, W⟩, ⟨Hc, Hm, HI⟩, To⟩ := id I; obtain ⟨⟨p0, p1, p2, p3⟩, ⟨m0, m1, m2, m3⟩, ⟨b0, b1, b2, b3, b4⟩, hp, hd⟩ := id P
  have B := hG_B (hI_G HI)
  by_cases q : xrg a 0 7
  · obtain ⟨x, _, hx, rfl⟩ := q
    by_cases q2 : xrg b 0 1
    · obtain ⟨k, _, hk, rfl⟩ := q2
      have bx := B x (by omega)
      obtain ⟨M1, r1, H1, F1⟩ := hc28a_H (d := d + 58) (w := [35, 44, 53, 58, 63, 66]) (S := S) (c := 18) (Or.inl rfl) (xhB_le (by omega) B) Hc
      obtain ⟨M2, r2, H2, F2⟩ := hc29 (d := d + 58) (w := [35, 44, 53, 58, 63, 66]) (S := xs S M1) (c := 18) (Or.inr (Or.inl rfl)) H1 (xhB_le (by omega) B) (x := x) (by omega) (by omega) (-3)
      rw [xs_xs] at r2
      rw [xm_xs] at F2
      have B2 : xhB 46 (hup h x (h x + 1)) := hup_B B (by omega)
      have e3 : M2 0 35 3 = nI st := by rw [F2 0 35 (by omega), F1 0 35 (by omega)]; exact p3
      have hq := hsq_le B2
      obtain ⟨M3, r3, H3, F3⟩ := hc35 (d := d + 56) (w := [35, 44, 53, 58, 63, 66]) (S := xs S M2) (c := 18) (st := st) (Or.inr (Or.inl rfl)) (by omega) b3 H2 (xhB_le (by omega) B2) (n := 17000) (by omega) (by omega)
      rw [xs_xs] at r3
      rw [xm_xs] at F3
      have B3 := (hset_keep (st := st) 17000 (hup h x (h x + 1)) (hus s x (h x) (-3)) 46 B2).1
      have r4 := hc38 (d := d + 57) (w := [35, 44, 53, 58, 63, 66]) (S := xs S M3) (c := 18) (Or.inr (Or.inl rfl)) H3 (xhB_le (by omega) B3) (-3)
      have F : ∀ b e, ¬ (b = 0 ∧ (e = 19 ∨ e = 20)) → M3 b e = xm S b e := fun b e q => by rw [F3 b e (by omega), F2 b e (by omega), F1 b e (by omega)]
      have I1 : xIq (xm (xs S (xw M3 0 69 0 (nI 0)))) np nq ch st du pl dy dp sz kd gv g h s ln ti fl := xIq_fr (M := xm S) ⟨fun b e h1 h2 h3 => by rw [xm_xs, xw_r (by omega), F b e (by omega)], by rw [xm_xs, xw_n (by omega), F 0 69 (by omega)], by rw [xm_xs, xw_n (by omega), F 0 69 (by omega)]⟩ I
      obtain ⟨M4, r5, H5, F5⟩ := hm240 (d := d + 54) (w := [35, 44, 53, 58, 63, 66]) I1.1 I1.2.2.1.1 Hm B (x := x) (by omega)
      rw [xs_xs] at r5
      rw [xm_xs] at F5
      have r6 := hm199 (d := d + 57) (w := [35, 44, 53, 58, 63, 66]) (S := xs S M4) (Or.inr rfl) H5 (xhB_le (by omega) B3) (-3)
      refine Or.inl ⟨if k = 0 then nI (hset st 17000 (hup h x (h x + 1)) (hus s x (h x) (-3))).1 else oI (hcol (hset st 17000 (hup h x (h x + 1)) (hus s x (h x) (-3))).2.1 (hset st 17000 (hup h x (h x + 1)) (hus s x (h x) (-3))).2.2 (-3)), M3, M4, ?_, ?_, ?_, fun b e h => ?_, fun j h1 h2 => ?_⟩
      · rw [xe118]
        simp (disch := omega) only [qc141y (Nat.zero_le x) hx, qc141y (Nat.zero_le k) hk, xr_cV_s, r1, r2, xm_xs, e3, r3, xr_cI_s, r4, xn_eq]
        split <;> rfl
      · rw [xe242]
        have e0 : xm (xs S (xw M3 0 69 0 (nI 0))) 0 69 0 = nI 0 := by rw [xm_xs, xw_y (by omega)]
        simp (disch := omega) only [xi_t, xn_k, xn_lt, xn_eq, xn_mul, xn_add, xn_sub, xn_dec, xn_m1, xn_1m, if_pos, if_neg, if_true, if_false, cond_true, cond_false, true_and, and_true, false_and, and_false, xr_cI_s, xr_cV_s, xr_cI_e, xr_cV_e, xm_xs, xs_xs, qm220y hx, qm152y (Nat.zero_le k) hk, qm151f _ _ e0, r5, r6]
        split <;> rfl
      · rw [F5 0 69 (by omega), xw_y (by omega)]
      · rw [F5 b e (by omega), xw_r (by omega), F b e (by omega)]
      · rw [F5 0 69 (by omega), xw_n (by omega), F 0 69 (by omega)]
    · refine Or.inr (Or.inr ⟨by omega, qNo_of (nI 0) (by omega) ?_ (fun T hT => ?_)⟩)
      · rw [xe118]; simp (disch := omega) only [xi_t, xn_k, xn_lt, xn_eq, xn_mul, xn_add, xn_sub, xn_dec, xn_m1, xn_1m, if_pos, if_neg, if_true, if_false, cond_true, cond_false, true_and, and_true, false_and, and_false, xr_cI_s, xr_cV_s, xr_cI_e, xr_cV_e, xm_xs, xs_xs, qc141y (Nat.zero_le x) hx, qc141n (by omega) (by omega) q2]
      · rw [xe242]; have e0 : xm (xs T (xw (xm T) 0 69 0 (nI 0))) 0 69 0 = nI 0 := (by rw [xm_xs, xw_y (by omega)])
        simp (disch := omega) only [xi_t, xn_k, xn_lt, xn_eq, xn_mul, xn_add, xn_sub, xn_dec, xn_m1, xn_1m, if_pos, if_neg, if_true, if_false, cond_true, cond_false, true_and, and_true, false_and, and_false, xr_cI_s, xr_cV_s, xr_cI_e, xr_cV_e, xm_xs, xs_xs, qm220y hx, qm152n (by omega) (by omega) q2, qm151t (t := 1) (r := 1) (by omega) (by omega) (by omega) e0]
  · refine Or.inr (Or.inr ⟨by omega, qNo_of (nI 0) (by omega) ?_ (fun T hT => ?_)⟩)
    · rw [xe118]; simp (disch := omega) only [xi_t, xn_k, xn_lt, xn_eq, xn_mul, xn_add, xn_sub, xn_dec, xn_m1, xn_1m, if_pos, if_neg, if_true, if_false, cond_true, cond_false, true_and, and_true, false_and, and_false, xr_cI_s, xr_cV_s, xr_cI_e, xr_cV_e, xm_xs, xs_xs, qc141n (by omega) (by omega) q]
    · rw [xe242]; have e0 : xm (xs T (xw (xm T) 0 69 0 (nI 0))) 0 69 0 = nI 0 := (by rw [xm_xs, xw_y (by omega)])
      simp (disch := omega) only [xi_t, xn_k, xn_lt, xn_eq, xn_mul, xn_add, xn_sub, xn_dec, xn_m1, xn_1m, if_pos, if_neg, if_true, if_false, cond_true, cond_false, true_and, and_true, false_and, and_false, xr_cI_s, xr_cV_s, xr_cI_e, xr_cV_e, xm_xs, xs_xs, qm220n q, qm151t (t := 1) (r := 1) (by omega) (by omega) (by omega) e0]
theorem q_baskets (I : xIq (xm S) np nq ch st du pl dy dp sz kd gv g h s ln ti fl) (a : Int32) : qRes d 119 243 [xI a] S 1 0 := by
  obtain ⟨P, ⟨Lc, Lm, Lv⟩, ⟨e89, G, W⟩, ⟨Hc, Hm, HI⟩, To⟩ := id I; obtain ⟨⟨p0, p1, p2, p3⟩, ⟨m0, m1, m2, m3⟩, ⟨b0, b1, b2, b3, b4⟩, hp, hd⟩ := id P
  have B := hG_B (hI_G HI)
  by_cases q : xrl a nq
  · obtain ⟨p, hpq, rfl⟩ := q
    refine Or.inl ⟨hdown h s (nI p), qOk_of ?_ ?_⟩
    · rw [xe119]; simp (disch := omega) only [xi_t, xn_k, xn_lt, xn_eq, xn_mul, xn_add, xn_sub, xn_dec, xn_m1, xn_1m, if_pos, if_neg, if_true, if_false, cond_true, cond_false, true_and, and_true, false_and, and_false, xr_cI_s, xr_cV_s, xr_cI_e, xr_cV_e, xm_xs, xs_xs, p1, qc140y hpq, hc40 (Or.inl rfl) Hc (xhB_le (show 45 ≤ 81 by omega) B)]
    · rw [xe243]; obtain ⟨T, hT, e0, I'⟩ := xT_ex I; rw [← hT]; obtain ⟨P', ⟨Lc', Lm', Lv'⟩, ⟨e89', G', W'⟩, ⟨Hc', Hm', HI'⟩, To'⟩ := id I'; obtain ⟨⟨p0', p1', p2', p3'⟩, ⟨m0', m1', m2', m3'⟩, ⟨b0', b1', b2', b3', b4'⟩, hp', hd'⟩ := id P'
      have H' : xhM (xm T 0 89) h s := by rw [e89']; exact Hm
      have r9 := hm199 (d := d + 57) (w := [35, 44, 53, 58, 63, 66]) (S := T) (Or.inl rfl) H' (xhB_le (show 45 ≤ 80 by omega) B) (nI p)
      rw [qm218y hpq (by omega) m1', xr_cI_s, if_neg (by rw [xn_eq (by omega) (by omega)]; omega), qm151f _ _ e0, xr_cI_s, if_pos rfl, r9, xr_cI_s]
      unfold hdown
      cases hq : hcol h s (nI p) with
      | none =>
        rw [show oI none = (-1 : Int32) from rfl]
        refine (xg243_40 _ _ _ _ _ _).trans ?_
        rw [if_pos rfl, if_pos rfl]
      | some x =>
        obtain ⟨hx, k, hk⟩ := hcol_some hq
        have bx := B x hx
        refine (xl_fst (T := fun k => xr_Run (d + 59) 243 40 [xP 0 69, xI (nI p), xI (nI x), xI (nI k)] [] xMd T) (R := fun k => some (.inl (some (nI (h x - k))), xMd, T)) (c := fun k => decide (s x k = nI p)) (n := h x) (fun k hk => ?_)).trans ?_
        · refine (xg243_40 _ _ _ _ _ _).trans ?_
          have e := Hm.2 x k hx hk
          have e2 := hm192 (d := d + 58) (w := [35, 44, 53, 58, 63, 66]) (S := T) (Or.inl rfl) H' hx
          simp (disch := omega) only [xi_t, xn_k, xn_lt, xn_eq, xn_mul, xn_add, xn_sub, xn_dec, xn_m1, xn_1m, if_pos, if_neg, if_true, if_false, cond_true, cond_false, true_and, and_true, false_and, and_false, xr_cI_s, xr_cV_s, xr_cI_e, xr_cV_e, xm_xs, xs_xs, e89', e, e2, Bool.cond_decide]
        · rw [show xfst (fun k => decide (s x k = nI p)) (h x) 0 = hrow h s x (nI p) from rfl]
          simp only [hk]
  · refine Or.inr (Or.inl ⟨by omega, qNo_of (nI 0) (by omega) ?_ (fun T hT => ?_)⟩)
    · rw [xe119]; simp (disch := omega) only [xi_t, xn_k, xn_lt, xn_eq, xn_mul, xn_add, xn_sub, xn_dec, xn_m1, xn_1m, if_pos, if_neg, if_true, if_false, cond_true, cond_false, true_and, and_true, false_and, and_false, xr_cI_s, xr_cV_s, xr_cI_e, xr_cV_e, xm_xs, xs_xs, p1, qc140n (by omega) q]
    · rw [xe243]; have e0 : xm (xs T (xw (xm T) 0 69 0 (nI 0))) 0 69 0 = nI 0 := (by rw [xm_xs, xw_y (by omega)]); have f1 : xm (xs T (xw (xm T) 0 69 0 (nI 0))) 0 73 1 = nI nq := (by rw [xm_xs, xw_n (by omega), hT, xw_n (by omega)]; exact m1)
      simp (disch := omega) only [xi_t, xn_k, xn_lt, xn_eq, xn_mul, xn_add, xn_sub, xn_dec, xn_m1, xn_1m, if_pos, if_neg, if_true, if_false, cond_true, cond_false, true_and, and_true, false_and, and_false, xr_cI_s, xr_cV_s, xr_cI_e, xr_cV_e, xm_xs, xs_xs, qm218n (by omega) f1 q, qm151t (t := 1) (r := 0) (by omega) (by omega) (by omega) e0]
end
