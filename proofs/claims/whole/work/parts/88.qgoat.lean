/-! QUESTIONS, 13: goats, span -/
theorem gtF_tr {S : xr_S} {M M' : xr_M} (F : gtF S M) (F' : gtF (xs S M) M') : gtF S M' := ⟨fun b e h => by rw [F'.1 b e h, xm_xs]; exact F.1 b e h, fun k hk => by rw [F'.2 k hk, xm_xs]; exact F.2 k hk⟩
theorem oI_eq {a b : Option Nat} (ha : ∀ x, a = some x → x < 100) (hb : ∀ x, b = some x → x < 100) : (oI a = oI b) = (a = b) := by
  apply propext
  constructor
  · intro h
    cases a with
    | none =>
      cases b with
      | none => rfl
      | some y => exact ((xn_1m (show y < 2147483648 by have := hb y rfl; omega)).mp h).elim
    | some x =>
      have hx := ha x rfl
      cases b with
      | none => exact ((xn_m1 (show x < 2147483648 by omega)).mp h).elim
      | some y =>
        have hy := hb y rfl
        have : x = y := (xn_eq (show x < 2147483648 by omega) (show y < 2147483648 by omega)).mp h
        rw [this]
  · intro h; rw [h]
theorem oI_n1 {a : Option Nat} (ha : ∀ x, a = some x → x < 100) : (oI a = -1) = (a = none) := oI_eq (b := none) ha (fun _ h => nomatch h)
theorem hcol_lt {h : Nat → Nat} {s : Nat → Nat → Int32} {v : Int32} : ∀ x, hcol h s v = some x → x < 100 := fun x hx => by have := (hcol_some hx).1; omega
def mnk (f : Nat → Nat) : Nat → Nat
  | 0 => 0
  | n + 1 => if n = 0 then f 0 else min (mnk f n) (f n)
section
variable {d : Nat} {w : List Nat} {S : xr_S} {np nq ch st : Nat} {du pl : Nat → Nat} {dy : Nat → Int32} {dp : Nat → Nat → Nat} {sz : Nat} {kd : Nat → Nat} {gv g : Nat → Int32} {h : Nat → Nat} {s : Nat → Nat → Int32} {ln : Nat} {ti : Nat → Nat} {fl : Nat → Option Nat}
theorem qc141l {k n : Nat} (h : k < n) (hn : n < 100000000) : xr_Call (d + 1) 141 [xP 0 0, xI (nI k), xI (nI 0), xI (nI n - nI 1)] xMd S = some (.inl none, xMd, S) := by
  rw [xe141]
  obtain ⟨q1, q2⟩ := (xrl_sub hn).1 ⟨k, h, rfl⟩
  rw [if_neg q1, if_neg q2]
theorem qc141m {a : Int32} {n : Nat} (hn : n < 100000000) (h : ¬ xrl a n) : xr_Call (d + 1) 141 [xP 0 0, xI a, xI (nI 0), xI (nI n - nI 1)] xMd S = some (.inr xIA, xMd, xr_ex (xs S (xw (xm S) 0 0 18 (xm S 0 0 18 + nI 1)))) := by
  rw [xe141]
  rcases (xrl_sub hn).2 h with q | ⟨q, q2⟩
  · rw [if_pos q]
  · rw [if_neg q, if_pos q2]
theorem qm262y {q y : Nat} (hq : q ≤ 16) (h1 : 1 ≤ y) (hy : y ≤ 100) : xr_Call (d + 2) 262 [xI (nI q), xI (nI y)] ([], w) S = some (.inl (some (nI 1)), ([], w), S) := by
  rw [xe262, qm152y (Nat.zero_le q) hq (by omega), xr_cI_s, if_neg (by rw [xn_eq (by omega) (by omega)]; omega), qm152y h1 hy (by omega), xr_cI_s, if_neg (by rw [xn_eq (by omega) (by omega)]; omega)]
theorem qm262a {a b : Int32} (h : ¬ xrg a 0 16) : xr_Call (d + 2) 262 [xI a, xI b] ([], w) S = some (.inl (some (nI 0)), ([], w), S) := by
  rw [xe262, qm152n (by omega) (by omega) h, xr_cI_s, if_pos rfl]
theorem qm262b {q : Nat} {b : Int32} (hq : q ≤ 16) (h : ¬ xrg b 1 100) : xr_Call (d + 2) 262 [xI (nI q), xI b] ([], w) S = some (.inl (some (nI 0)), ([], w), S) := by
  rw [xe262, qm152y (Nat.zero_le q) hq (by omega), xr_cI_s, if_neg (by rw [xn_eq (by omega) (by omega)]; omega), qm152n (by omega) (by omega) h, xr_cI_s, if_pos rfl]
theorem q_goats (I : xIq (xm S) np nq ch st du pl dy dp sz kd gv g h s ln ti fl) (sd a b c : Int32) : qRes d 134 263 [xI sd, xI a, xI b, xI c] S 0 1 := by
  obtain ⟨P, ⟨Lc, Lm, Lv⟩, ⟨e89, G, W⟩, ⟨Hc, Hm, HI⟩, To⟩ := id I; obtain ⟨⟨p0, p1, p2, p3⟩, ⟨m0, m1, m2, m3⟩, ⟨b0, b1, b2, b3, b4⟩, hp, hd⟩ := id P
  have Gh := hI_G HI
  obtain ⟨dr, hdr⟩ : ∃ dr : Int32 → Nat, ∀ l, dr l = gdr l := ⟨gdr, fun _ => rfl⟩
  obtain ⟨lo, hlo⟩ : ∃ lo : Int32 → Int32, ∀ l, lo l = glot l := ⟨glot, fun _ => rfl⟩
  obtain ⟨fu, hf⟩ : ∃ fu : Nat, 16928 ≤ fu ∧ fu < 800000 := ⟨20000, by omega, by omega⟩
  by_cases q : xrg a 0 16
  · obtain ⟨q, _, hq, rfl⟩ := q
    by_cases q1 : xrg b 1 100
    · obtain ⟨y, hy1, hy, rfl⟩ := q1
      by_cases q2 : xrg c 0 3
      · obtain ⟨k, _, hk, rfl⟩ := q2
        have cls : ∃ M1, xr_Call (d + 60) 134 [xP 0 0, xI sd, xI (nI q), xI (nI y), xI (nI k)] xMd S = some (.inl (some (if k = 0 then nI (gtn dr lo fu st q (sd, 0, 0, h, s) y).2.1 else if k = 1 then nI (gtn dr lo fu st q (sd, 0, 0, h, s) y).2.2.1 else if k = 2 then nI (hmx (gtn dr lo fu st q (sd, 0, 0, h, s) y).2.2.2.1 8) else nI (gcnt nq (gyk sz kd gv pl dy nq g y) (nI 2)))), xMd, xs S M1) ∧ ∀ b e, ¬ (b = 0 ∧ ((12 ≤ e ∧ e ≤ 20) ∨ e = 56 ∨ e = 57 ∨ e = 30 ∨ e = 32 ∨ e = 33)) → M1 b e = xm S b e := by
          by_cases q3 : k = 3
          · obtain ⟨M1, g1, r1, G1, W1, e1, c1, F1⟩ := yc144 (d := d + 49) I hy
            have P1 : xPl (xm (xs S M1)) np nq ch st du pl dy dp := xPl_fr (fun b e he => F1 b e (by omega)) P
            refine ⟨M1, ?_, fun b e h => F1 b e (by omega)⟩
            rw [xe134, qc141y (Nat.zero_le q) hq (by omega), xr_cV_s, qc141y hy1 hy (by omega), xr_cV_s, qc141y (Nat.zero_le k) hk (by omega), xr_cV_s, if_pos (by rw [q3]), r1, xr_cV_s, gc17 (Or.inr rfl) P1 G1, xr_cI_s, if_neg (show ¬ k = 0 by omega), if_neg (show ¬ k = 1 by omega), if_neg (show ¬ k = 2 by omega)]
            rw [show xsN (fun k => if g1 (8 + k) = nI 2 then 1 else 0) nq = gcnt nq (gyk sz kd gv pl dy nq g y) (nI 2) from xsN_congr nq (fun p hpq => by rw [e1 p hpq])]
          · obtain ⟨M1, r1, C1, F1⟩ := gc1 (d := d + 53) (w := [35, 44, 53, 58, 63, 66]) (S := S) (sd := sd) (st := st) hdr hlo hf b3 b4 hq (show y < 1000 by omega) Gh Hc
            obtain ⟨c1, c2, c3, c4⟩ := C1
            have In := gtI_n (dr := dr) (lo := lo) (st := st) (q := q) hf.1 b3 b4 (show gtI 0 (sd, 0, 0, h, s) from ⟨Gh, by dsimp only; omega, by dsimp only; omega⟩) y
            refine ⟨M1, ?_, fun b e h => F1 b e (by omega)⟩
            rw [xe134, qc141y (Nat.zero_le q) hq (by omega), xr_cV_s, qc141y hy1 hy (by omega), xr_cV_s, qc141y (Nat.zero_le k) hk (by omega), xr_cV_s, if_neg (by rw [xn_eq (by omega) (by omega)]; exact q3), p3, r1, xr_cV_s, xm_xs, c2, c3, hc37 (S := xs S M1) (c := 31) (Or.inr (Or.inr rfl)) c4 (xhB_le (by omega) (hG_B In.1)), xr_cI_s]
            simp (disch := omega) only [xn_eq]
            by_cases q4 : k = 0
            · simp only [q4, if_true]
            · by_cases q5 : k = 1
              · subst q5; rfl
              · rw [if_neg q4, if_neg q5, if_neg q4, if_neg q5, if_pos (show k = 2 by omega)]
        obtain ⟨M1, r1, F1⟩ := cls
        have I1 : xIq (xm (xs S (xw M1 0 69 0 (nI 0)))) np nq ch st du pl dy dp sz kd gv g h s ln ti fl := xIq_fr (M := xm S) ⟨fun b e h1 h2 h3 => by rw [xm_xs, xw_r (by omega), F1 b e (by omega)], by rw [xm_xs, xw_n (by omega), F1 0 69 (by omega)], by rw [xm_xs, xw_n (by omega), F1 0 69 (by omega)]⟩ I
        obtain ⟨M2, r2, C2, F2, L2⟩ := gm261 (d := d + 49) (w := [35, 44, 53, 58, 63, 66]) (sd := sd) (q := q) (y := y) hdr hlo hf.1 hq (by omega) I1
        rw [xs_xs] at r2
        have F2a := F2.1
        have F2b := F2.2
        rw [xm_xs] at F2a F2b
        have I2 := xIq_gt I1 F2
        rw [xs_xs] at I2
        obtain ⟨c1, c2, c3, c4⟩ := C2
        have In := gtI_n (dr := dr) (lo := lo) (st := st) (q := q) hf.1 b3 b4 (show gtI 0 (sd, 0, 0, h, s) from ⟨Gh, by dsimp only; omega, by dsimp only; omega⟩) y
        have Bn := hG_B In.1
        generalize gtn dr lo fu st q (sd, 0, 0, h, s) y = t at *
        refine Or.inl ⟨_, M1, M2, r1, ?_, ?_, fun b e h => ?_, fun j h1 h2 => ?_⟩
        · rw [xe263]
          have e0 : xm (xs S (xw M1 0 69 0 (nI 0))) 0 69 0 = nI 0 := by rw [xm_xs, xw_y (by omega)]
          rw [xm_xs, xs_xs, qm262y hq hy1 hy, xr_cI_s, if_neg (by rw [xn_eq (by omega) (by omega)]; omega), qm152y (Nat.zero_le k) hk (by omega), xr_cI_s, if_neg (by rw [xn_eq (by omega) (by omega)]; omega), qm151f _ _ e0, xr_cI_s, if_pos rfl, r2, xr_cV_s]
          refine (xl_up (T := fun j => xr_Run (d + 59) 263 52 [xP 0 69, xI sd, xI (nI q), xI (nI y), xI (nI k), xI (nI (hmx t.2.2.2.1 j)), xI (nI j)] [] xMd (xs S M2)) (n := 8) (fun j hj => ?_)).trans ?_
          · refine (xg263_52 _ _ _ _ _ _ _ _ _).trans ?_
            have r3 := hm192 (d := d + 58) (w := [35, 44, 53, 58, 63, 66]) (S := xs S M2) (c := 90) (Or.inr rfl) c4 (x := j) hj
            have bj := Bn j hj
            have bm := hmx_le (h := t.2.2.2.1) j (fun x hx => Bn x (by omega))
            rw [if_pos (by rw [xn_lt (by omega) (by omega)]; omega), r3, xr_cI_s, xe154, hmx, xn_add]
            by_cases q5 : t.2.2.2.1 j < hmx t.2.2.2.1 j
            · rw [if_pos (by rw [xn_lt (by omega) (by omega)]; exact q5), xr_cI_s, Nat.max_eq_left (by omega)]
            · rw [if_neg (by rw [xn_lt (by omega) (by omega)]; exact q5), xr_cI_s, Nat.max_eq_right (by omega)]
          · refine (xg263_52 _ _ _ _ _ _ _ _ _).trans ?_
            rw [if_neg (by rw [xn_lt (by omega) (by omega)]; omega), xm_xs, c2, c3, gm215 (Or.inr rfl) I2.1, xr_cI_s]
            rw [show xsN (fun k => if xm (xs S M2) 0 90 (8 + k) = nI 2 then 1 else 0) nq = gcnt nq (gyk sz kd gv pl dy nq g y) (nI 2) from xsN_congr nq (fun p hpq => by rw [xm_xs, L2.2 p hpq (8 + p) (by unfold pidx; omega)])]
            simp (disch := omega) only [xn_eq]
            by_cases q4 : k = 0
            · simp only [q4, if_true]
            · by_cases q5 : k = 1
              · subst q5; rfl
              · by_cases q6 : k = 2
                · rw [if_neg q4, if_neg q5, if_neg q4, if_neg q5, if_pos q6, if_pos q6]
                · rw [if_neg q4, if_neg q5, if_neg q4, if_neg q5, if_neg q6, if_neg q6]
        · rw [F2b 0 (by omega), xw_y (by omega)]
        · rw [F2a b e (by omega), xw_r (by omega), F1 b e (by omega)]
        · rw [F2b j (by omega), xw_n (by omega), F1 0 69 (by omega)]
      · refine Or.inr (Or.inr ⟨by omega, qNo_of (nI 0) (by omega) ?_ (fun T hT => ?_)⟩)
        · rw [xe134]; simp (disch := omega) only [xi_t, xn_k, xn_lt, xn_eq, xn_mul, xn_add, xn_sub, xn_dec, xn_m1, xn_1m, if_pos, if_neg, if_true, if_false, cond_true, cond_false, true_and, and_true, false_and, and_false, xr_cI_s, xr_cV_s, xr_cI_e, xr_cV_e, xm_xs, xs_xs, qc141y (Nat.zero_le q) hq, qc141y hy1 hy, qc141n (by omega) (by omega) q2]
        · rw [xe263]; have e0 : xm (xs T (xw (xm T) 0 69 0 (nI 0))) 0 69 0 = nI 0 := (by rw [xm_xs, xw_y (by omega)])
          simp (disch := omega) only [xi_t, xn_k, xn_lt, xn_eq, xn_mul, xn_add, xn_sub, xn_dec, xn_m1, xn_1m, if_pos, if_neg, if_true, if_false, cond_true, cond_false, true_and, and_true, false_and, and_false, xr_cI_s, xr_cV_s, xr_cI_e, xr_cV_e, xm_xs, xs_xs, qm262y hq hy1 hy, qm152n (by omega) (by omega) q2, qm151t (t := 1) (r := 1) (by omega) (by omega) (by omega) e0]
    · refine Or.inr (Or.inr ⟨by omega, qNo_of (nI 0) (by omega) ?_ (fun T hT => ?_)⟩)
      · rw [xe134]; simp (disch := omega) only [xi_t, xn_k, xn_lt, xn_eq, xn_mul, xn_add, xn_sub, xn_dec, xn_m1, xn_1m, if_pos, if_neg, if_true, if_false, cond_true, cond_false, true_and, and_true, false_and, and_false, xr_cI_s, xr_cV_s, xr_cI_e, xr_cV_e, xm_xs, xs_xs, qc141y (Nat.zero_le q) hq, qc141n (by omega) (by omega) q1]
      · rw [xe263]; have e0 : xm (xs T (xw (xm T) 0 69 0 (nI 0))) 0 69 0 = nI 0 := (by rw [xm_xs, xw_y (by omega)])
        simp (disch := omega) only [xi_t, xn_k, xn_lt, xn_eq, xn_mul, xn_add, xn_sub, xn_dec, xn_m1, xn_1m, if_pos, if_neg, if_true, if_false, cond_true, cond_false, true_and, and_true, false_and, and_false, xr_cI_s, xr_cV_s, xr_cI_e, xr_cV_e, xm_xs, xs_xs, qm262b hq q1, qm151t (t := 1) (r := 1) (by omega) (by omega) (by omega) e0]
  · refine Or.inr (Or.inr ⟨by omega, qNo_of (nI 0) (by omega) ?_ (fun T hT => ?_)⟩)
    · rw [xe134]; simp (disch := omega) only [xi_t, xn_k, xn_lt, xn_eq, xn_mul, xn_add, xn_sub, xn_dec, xn_m1, xn_1m, if_pos, if_neg, if_true, if_false, cond_true, cond_false, true_and, and_true, false_and, and_false, xr_cI_s, xr_cV_s, xr_cI_e, xr_cV_e, xm_xs, xs_xs, qc141n (by omega) (by omega) q]
    · rw [xe263]; have e0 : xm (xs T (xw (xm T) 0 69 0 (nI 0))) 0 69 0 = nI 0 := (by rw [xm_xs, xw_y (by omega)])
      simp (disch := omega) only [xi_t, xn_k, xn_lt, xn_eq, xn_mul, xn_add, xn_sub, xn_dec, xn_m1, xn_1m, if_pos, if_neg, if_true, if_false, cond_true, cond_false, true_and, and_true, false_and, and_false, xr_cI_s, xr_cV_s, xr_cI_e, xr_cV_e, xm_xs, xs_xs, qm262a q, qm151t (t := 1) (r := 1) (by omega) (by omega) (by omega) e0]
theorem q_span (I : xIq (xm S) np nq ch st du pl dy dp sz kd gv g h s ln ti fl) (sd a b c e f : Int32) : qRes d 135 264 [xI sd, xI a, xI b, xI c, xI e, xI f] S 0 1 := by
  obtain ⟨P, ⟨Lc, Lm, Lv⟩, ⟨e89, G, W⟩, ⟨Hc, Hm, HI⟩, To⟩ := id I; obtain ⟨⟨p0, p1, p2, p3⟩, ⟨m0, m1, m2, m3⟩, ⟨b0, b1, b2, b3, b4⟩, hp, hd⟩ := id P
  have Gh := hI_G HI
  have B := hG_B Gh
  obtain ⟨dr, hdr⟩ : ∃ dr : Int32 → Nat, ∀ l, dr l = gdr l := ⟨gdr, fun _ => rfl⟩
  obtain ⟨lo, hlo⟩ : ∃ lo : Int32 → Int32, ∀ l, lo l = glot l := ⟨glot, fun _ => rfl⟩
  obtain ⟨fu, hf⟩ : ∃ fu : Nat, 16928 ≤ fu ∧ fu < 800000 := ⟨20000, by omega, by omega⟩
  by_cases q0 : xrg a 1 20
  · obtain ⟨m, hm1, hm, rfl⟩ := q0
    by_cases q : xrg b 0 16
    · obtain ⟨q, _, hq, rfl⟩ := q
      by_cases q1 : xrg c 1 100
      · obtain ⟨y, hy1, hy, rfl⟩ := q1
        by_cases q2 : xrg e 0 2
        · obtain ⟨k, _, hk, rfl⟩ := q2
          by_cases q3 : xrl f nq
          · obtain ⟨p, hpq, rfl⟩ := q3
            have In : ∀ j, gtI y (gtn dr lo fu st q (sd + nI j, 0, 0, h, s) y) := fun j => gtI_n (dr := dr) (lo := lo) (st := st) (q := q) hf.1 b3 b4 (show gtI 0 (sd + nI j, 0, 0, h, s) from ⟨Gh, by dsimp only; omega, by dsimp only; omega⟩) y
            have lc : ∀ n, n ≤ m → ∃ M, xr_Run (d + 59) 135 77 [xP 0 0, xI sd, xI (nI m), xI (nI q), xI (nI y), xI (nI k), xI (nI p), xI (oI (hcol h s (nI p))), xI (nI 2147483647), xI (nI 0), xI (nI 0), xI (nI 0)] [] xMd S = xr_Run (d + 59) 135 77 [xP 0 0, xI sd, xI (nI m), xI (nI q), xI (nI y), xI (nI k), xI (nI p), xI (oI (hcol h s (nI p))), xI (if n = 0 then nI 2147483647 else nI (mnk (fun j => (gtn dr lo fu st q (sd + nI j, 0, 0, h, s) y).2.2.1) n)), xI (nI (hmx (fun j => (gtn dr lo fu st q (sd + nI j, 0, 0, h, s) y).2.2.1) n)), xI (nI (xsN (fun j => if hcol h s (nI p) = none then 0 else if hcol (gtn dr lo fu st q (sd + nI j, 0, 0, h, s) y).2.2.2.1 (gtn dr lo fu st q (sd + nI j, 0, 0, h, s) y).2.2.2.2 (nI p) = hcol h s (nI p) then 1 else 0) n)), xI (nI n)] [] xMd (xs S M) ∧ ∀ b e, ¬ (b = 0 ∧ (e = 30 ∨ e = 32 ∨ e = 33)) → M b e = xm S b e := by
              intro n
              induction n with
              | zero => intro _; exact ⟨xm S, by rw [xs_xm, if_pos rfl]; rfl, fun _ _ _ => rfl⟩
              | succ n ih =>
                intro hn
                obtain ⟨M, r, F⟩ := ih (by omega)
                obtain ⟨M2, r2, ⟨c1, c2, c3, c4⟩, F2⟩ := gc1 (d := d + 53) (w := [35, 44, 53, 58, 63, 66]) (S := xs S M) (sd := sd + nI n) (st := st) hdr hlo hf b3 b4 hq (show y < 1000 by omega) Gh (by rw [xm_xs, F 0 10 (by omega), F 0 11 (by omega)]; exact Hc)
                rw [xs_xs] at r2
                rw [xm_xs] at F2
                obtain ⟨i1, i2, i3⟩ := In n
                have r4 := hc38 (d := d + 57) (w := [35, 44, 53, 58, 63, 66]) (S := xs S M2) (c := 31) (Or.inr (Or.inr rfl)) c4 (xhB_le (by omega) (hG_B i1)) (nI p)
                have mb : ∀ j, (gtn dr lo fu st q (sd + nI j, 0, 0, h, s) y).2.2.1 ≤ 1700000 := fun j => by have := (In j).2.2; omega
                have mb1 : hmx (fun j => (gtn dr lo fu st q (sd + nI j, 0, 0, h, s) y).2.2.1) n ≤ 1700000 := hmx_le n (fun x _ => mb x)
                have mb2 : mnk (fun j => (gtn dr lo fu st q (sd + nI j, 0, 0, h, s) y).2.2.1) n ≤ 1700000 := by
                  have L : ∀ n, mnk (fun j => (gtn dr lo fu st q (sd + nI j, 0, 0, h, s) y).2.2.1) n ≤ 1700000 := by
                    intro n
                    induction n with
                    | zero => exact Nat.zero_le _
                    | succ n ih2 =>
                      rw [mnk]
                      split
                      · exact mb 0
                      · have := mb n; omega
                  exact L n
                have mbn := mb n
                have p3' : M 0 35 3 = nI st := by rw [F 0 35 (by omega)]; exact p3
                have e1 : (if nI (gtn dr lo fu st q (sd + nI n, 0, 0, h, s) y).2.2.1 < (if n = 0 then nI 2147483647 else nI (mnk (fun j => (gtn dr lo fu st q (sd + nI j, 0, 0, h, s) y).2.2.1) n)) then nI (gtn dr lo fu st q (sd + nI n, 0, 0, h, s) y).2.2.1 else (if n = 0 then nI 2147483647 else nI (mnk (fun j => (gtn dr lo fu st q (sd + nI j, 0, 0, h, s) y).2.2.1) n))) = nI (mnk (fun j => (gtn dr lo fu st q (sd + nI j, 0, 0, h, s) y).2.2.1) (n + 1)) := by
                  rw [mnk]
                  by_cases z : n = 0
                  · subst z
                    rw [if_pos rfl, if_pos rfl, if_pos (by rw [xn_lt (by omega) (by omega)]; omega)]
                  · rw [if_neg z, if_neg z]
                    by_cases z2 : (gtn dr lo fu st q (sd + nI n, 0, 0, h, s) y).2.2.1 < mnk (fun j => (gtn dr lo fu st q (sd + nI j, 0, 0, h, s) y).2.2.1) n
                    · rw [if_pos (by rw [xn_lt (by omega) (by omega)]; exact z2), Nat.min_eq_right (by omega)]
                    · rw [if_neg (by rw [xn_lt (by omega) (by omega)]; exact z2), Nat.min_eq_left (by omega)]
                have e2 : (if nI (hmx (fun j => (gtn dr lo fu st q (sd + nI j, 0, 0, h, s) y).2.2.1) n) < nI (gtn dr lo fu st q (sd + nI n, 0, 0, h, s) y).2.2.1 then nI (gtn dr lo fu st q (sd + nI n, 0, 0, h, s) y).2.2.1 else nI (hmx (fun j => (gtn dr lo fu st q (sd + nI j, 0, 0, h, s) y).2.2.1) n)) = nI (hmx (fun j => (gtn dr lo fu st q (sd + nI j, 0, 0, h, s) y).2.2.1) (n + 1)) := by
                  rw [hmx]
                  by_cases z2 : hmx (fun j => (gtn dr lo fu st q (sd + nI j, 0, 0, h, s) y).2.2.1) n < (gtn dr lo fu st q (sd + nI n, 0, 0, h, s) y).2.2.1
                  · rw [if_pos (by rw [xn_lt (by omega) (by omega)]; exact z2), Nat.max_eq_right (by omega)]
                  · rw [if_neg (by rw [xn_lt (by omega) (by omega)]; exact z2), Nat.max_eq_left (by omega)]
                refine ⟨M2, ?_, fun b e h => by rw [F2 b e h, F b e h]⟩
                rw [r]
                refine (xg135_77 _ _ _ _ _ _ _ _ _ _ _ _ _).trans ?_
                rw [if_pos (by rw [xn_lt (by omega) (by omega)]; omega), xm_xs, p3', r2, xr_cV_s, xm_xs, c3, e1, e2, r4, xr_cI_s, xn_add, xn_add, if_neg (show ¬ n + 1 = 0 by omega), xsN]
                by_cases z : hcol h s (nI p) = none
                · have zz : oI (hcol h s (nI p)) = -1 := by rw [z]; rfl
                  rw [if_pos zz]
                  simp only [z, if_true, Nat.add_zero]
                · rw [if_neg (fun z2 => z ((oI_n1 hcol_lt).mp z2))]
                  by_cases z3 : hcol (gtn dr lo fu st q (sd + nI n, 0, 0, h, s) y).2.2.2.1 (gtn dr lo fu st q (sd + nI n, 0, 0, h, s) y).2.2.2.2 (nI p) = hcol h s (nI p)
                  · rw [if_pos (by rw [z3])]
                    simp only [z, z3, if_true, if_false]
                  · rw [if_neg (fun z2 => z3 ((oI_eq hcol_lt hcol_lt).mp z2))]
                    simp only [z, z3, if_false, Nat.add_zero]
            obtain ⟨M1, r1, F1⟩ := lc m (Nat.le_refl _)
            have I1 : xIq (xm (xs S (xw M1 0 69 0 (nI 0)))) np nq ch st du pl dy dp sz kd gv g h s ln ti fl := xIq_fr (M := xm S) ⟨fun b e h1 h2 h3 => by rw [xm_xs, xw_r (by omega), F1 b e (by omega)], by rw [xm_xs, xw_n (by omega), F1 0 69 (by omega)], by rw [xm_xs, xw_n (by omega), F1 0 69 (by omega)]⟩ I
            have lm : ∀ n, n ≤ m → ∃ M, xr_Run (d + 59) 264 71 [xP 0 69, xI sd, xI (nI m), xI (nI q), xI (nI y), xI (nI k), xI (nI p), xI (-1), xI (nI 0), xI (nI 0), xI (nI 0)] [] xMd (xs S (xw M1 0 69 0 (nI 0))) = xr_Run (d + 59) 264 71 [xP 0 69, xI sd, xI (nI m), xI (nI q), xI (nI y), xI (nI k), xI (nI p), xI (if n = 0 then -1 else nI (mnk (fun j => (gtn dr lo fu st q (sd + nI j, 0, 0, h, s) y).2.2.1) n)), xI (nI (hmx (fun j => (gtn dr lo fu st q (sd + nI j, 0, 0, h, s) y).2.2.1) n)), xI (nI (xsN (fun j => if hcol h s (nI p) = none then 0 else if hcol (gtn dr lo fu st q (sd + nI j, 0, 0, h, s) y).2.2.2.1 (gtn dr lo fu st q (sd + nI j, 0, 0, h, s) y).2.2.2.2 (nI p) = hcol h s (nI p) then 1 else 0) n)), xI (nI n)] [] xMd (xs S M) ∧ gtF (xs S (xw M1 0 69 0 (nI 0))) M := by
              intro n
              induction n with
              | zero => intro _; exact ⟨xw M1 0 69 0 (nI 0), by rw [if_pos rfl]; rfl, ⟨fun _ _ _ => rfl, fun _ _ => rfl⟩⟩
              | succ n ih =>
                intro hn
                obtain ⟨M, r, F⟩ := ih (by omega)
                have I2 := xIq_gt I1 F
                rw [xs_xs] at I2
                obtain ⟨M2, r2, ⟨c1, c2, c3, c4⟩, F2, L2⟩ := gm261 (d := d + 49) (w := [35, 44, 53, 58, 63, 66]) (sd := sd + nI n) (q := q) (y := y) hdr hlo hf.1 hq (by omega) I2
                rw [xs_xs] at r2
                have F3 : gtF (xs S (xw M1 0 69 0 (nI 0))) M2 := gtF_tr F (by rw [xs_xs]; exact F2)
                have I3 := xIq_gt I1 F3
                rw [xs_xs] at I3
                obtain ⟨i1, i2, i3⟩ := In n
                have r3 := hm199 (d := d + 57) (w := [35, 44, 53, 58, 63, 66]) (S := xs S M2) (h := h) (s := s) (c := 89) (Or.inl rfl) (by rw [I3.2.2.1.1]; exact Hm) (xhB_le (by omega) B) (nI p)
                have r4 := hm199 (d := d + 57) (w := [35, 44, 53, 58, 63, 66]) (S := xs S M2) (c := 90) (Or.inr rfl) c4 (xhB_le (by omega) (hG_B i1)) (nI p)
                have mb : ∀ j, (gtn dr lo fu st q (sd + nI j, 0, 0, h, s) y).2.2.1 ≤ 1700000 := fun j => by have := (In j).2.2; omega
                have mb1 : hmx (fun j => (gtn dr lo fu st q (sd + nI j, 0, 0, h, s) y).2.2.1) n ≤ 1700000 := hmx_le n (fun x _ => mb x)
                have mb2 : mnk (fun j => (gtn dr lo fu st q (sd + nI j, 0, 0, h, s) y).2.2.1) n ≤ 1700000 := by
                  have L : ∀ n, mnk (fun j => (gtn dr lo fu st q (sd + nI j, 0, 0, h, s) y).2.2.1) n ≤ 1700000 := by
                    intro n
                    induction n with
                    | zero => exact Nat.zero_le _
                    | succ n ih2 =>
                      rw [mnk]
                      split
                      · exact mb 0
                      · have := mb n; omega
                  exact L n
                have mbn := mb n
                have e2 : xr_Call (d + 59) 154 [xI (nI (hmx (fun j => (gtn dr lo fu st q (sd + nI j, 0, 0, h, s) y).2.2.1) n)), xI (nI (gtn dr lo fu st q (sd + nI n, 0, 0, h, s) y).2.2.1)] xMd (xs S M2) = some (.inl (some (nI (hmx (fun j => (gtn dr lo fu st q (sd + nI j, 0, 0, h, s) y).2.2.1) (n + 1)))), xMd, xs S M2) := by
                  rw [xe154, hmx]
                  by_cases z2 : (gtn dr lo fu st q (sd + nI n, 0, 0, h, s) y).2.2.1 < hmx (fun j => (gtn dr lo fu st q (sd + nI j, 0, 0, h, s) y).2.2.1) n
                  · rw [if_pos (by rw [xn_lt (by omega) (by omega)]; exact z2), Nat.max_eq_left (by omega)]
                  · rw [if_neg (by rw [xn_lt (by omega) (by omega)]; exact z2), Nat.max_eq_right (by omega)]
                have e1 : ¬ n = 0 → xr_Call (d + 59) 153 [xI (nI (mnk (fun j => (gtn dr lo fu st q (sd + nI j, 0, 0, h, s) y).2.2.1) n)), xI (nI (gtn dr lo fu st q (sd + nI n, 0, 0, h, s) y).2.2.1)] xMd (xs S M2) = some (.inl (some (nI (mnk (fun j => (gtn dr lo fu st q (sd + nI j, 0, 0, h, s) y).2.2.1) (n + 1)))), xMd, xs S M2) := fun z => by
                  rw [xe153, mnk, if_neg z]
                  by_cases z2 : mnk (fun j => (gtn dr lo fu st q (sd + nI j, 0, 0, h, s) y).2.2.1) n < (gtn dr lo fu st q (sd + nI n, 0, 0, h, s) y).2.2.1
                  · rw [if_pos (by rw [xn_lt (by omega) (by omega)]; exact z2), Nat.min_eq_left (by omega)]
                  · rw [if_neg (by rw [xn_lt (by omega) (by omega)]; exact z2), Nat.min_eq_right (by omega)]
                refine ⟨M2, ?_, F3⟩
                rw [r]
                refine (xg264_71 _ _ _ _ _ _ _ _ _ _ _ _ _).trans ?_
                rw [if_pos (by rw [xn_lt (by omega) (by omega)]; omega), r2, xr_cV_s, xm_xs, c3, if_neg (show ¬ n + 1 = 0 by omega)]
                by_cases z0 : n = 0
                · subst z0
                  rw [if_pos rfl, if_pos rfl, e2, xr_cI_s, r3, xr_cI_s, show mnk (fun j => (gtn dr lo fu st q (sd + nI j, 0, 0, h, s) y).2.2.1) (0 + 1) = (gtn dr lo fu st q (sd + nI 0, 0, 0, h, s) y).2.2.1 from rfl]
                  by_cases z : hcol h s (nI p) = none
                  · have zz : oI (hcol h s (nI p)) = -1 := by rw [z]; rfl
                    rw [if_pos zz]
                    simp only [z, if_true, xsN, xn_add, Nat.add_zero, Nat.zero_add]
                  · rw [if_neg (fun z2 => z ((oI_n1 hcol_lt).mp z2)), r4, xr_cI_s, r3, xr_cI_s]
                    by_cases z3 : hcol (gtn dr lo fu st q (sd + nI 0, 0, 0, h, s) y).2.2.2.1 (gtn dr lo fu st q (sd + nI 0, 0, 0, h, s) y).2.2.2.2 (nI p) = hcol h s (nI p)
                    · rw [if_pos (by rw [z3])]
                      simp only [z, z3, if_true, if_false, xsN, xn_add, Nat.zero_add]
                    · rw [if_neg (fun z2 => z3 ((oI_eq hcol_lt hcol_lt).mp z2))]
                      simp only [z, z3, if_false, xsN, xn_add, Nat.add_zero, Nat.zero_add]
                · rw [if_neg z0, if_neg (fun z2 => (xn_m1 (show mnk (fun j => (gtn dr lo fu st q (sd + nI j, 0, 0, h, s) y).2.2.1) n < 2147483648 by omega)).mp z2), e1 z0, xr_cI_s, xm_xs, c3, e2, xr_cI_s, r3, xr_cI_s]
                  by_cases z : hcol h s (nI p) = none
                  · have zz : oI (hcol h s (nI p)) = -1 := by rw [z]; rfl
                    rw [if_pos zz]
                    simp only [z, if_true, xsN, xn_add, Nat.add_zero]
                  · rw [if_neg (fun z2 => z ((oI_n1 hcol_lt).mp z2)), r4, xr_cI_s, r3, xr_cI_s]
                    by_cases z3 : hcol (gtn dr lo fu st q (sd + nI n, 0, 0, h, s) y).2.2.2.1 (gtn dr lo fu st q (sd + nI n, 0, 0, h, s) y).2.2.2.2 (nI p) = hcol h s (nI p)
                    · rw [if_pos (by rw [z3])]
                      simp only [z, z3, if_true, if_false, xsN, xn_add]
                    · rw [if_neg (fun z2 => z3 ((oI_eq hcol_lt hcol_lt).mp z2))]
                      simp only [z, z3, if_false, xsN, xn_add, Nat.add_zero]
            obtain ⟨M2, r2, F2⟩ := lm m (Nat.le_refl _)
            have F2a := F2.1
            have F2b := F2.2
            rw [xm_xs] at F2a F2b
            refine Or.inl ⟨if k = 0 then nI (mnk (fun j => (gtn dr lo fu st q (sd + nI j, 0, 0, h, s) y).2.2.1) m) else if k = 1 then nI (hmx (fun j => (gtn dr lo fu st q (sd + nI j, 0, 0, h, s) y).2.2.1) m) else nI (xsN (fun j => if hcol h s (nI p) = none then 0 else if hcol (gtn dr lo fu st q (sd + nI j, 0, 0, h, s) y).2.2.2.1 (gtn dr lo fu st q (sd + nI j, 0, 0, h, s) y).2.2.2.2 (nI p) = hcol h s (nI p) then 1 else 0) m), M1, M2, ?_, ?_, ?_, fun b e h => ?_, fun j h1 h2 => ?_⟩
            · rw [xe135, qc141y hm1 hm (by omega), xr_cV_s, qc141y (Nat.zero_le q) hq (by omega), xr_cV_s, qc141y hy1 hy (by omega), xr_cV_s, qc141y (Nat.zero_le k) hk (by omega), xr_cV_s, p1, qc141l hpq (by omega), xr_cV_s, hc38 (Or.inl rfl) Hc (xhB_le (by omega) B), xr_cI_s, r1]
              refine (xg135_77 _ _ _ _ _ _ _ _ _ _ _ _ _).trans ?_
              rw [if_neg (by rw [xn_lt (by omega) (by omega)]; omega), if_neg (show ¬ m = 0 by omega)]
              rcases (by omega : k = 0 ∨ k = 1 ∨ k = 2) with rfl | rfl | rfl
              · simp (disch := omega) only [xn_eq, if_true, if_false, Nat.reduceEqDiff]
              · simp (disch := omega) only [xn_eq, if_true, if_false, Nat.reduceEqDiff]
              · simp (disch := omega) only [xn_eq, if_true, if_false, Nat.reduceEqDiff]
            · rw [xe264]
              have e0 : xm (xs S (xw M1 0 69 0 (nI 0))) 0 69 0 = nI 0 := by rw [xm_xs, xw_y (by omega)]
              rw [xm_xs, xs_xs, qm152y hm1 hm (by omega), xr_cI_s, if_neg (by rw [xn_eq (by omega) (by omega)]; omega), qm262y hq hy1 hy, xr_cI_s, if_neg (by rw [xn_eq (by omega) (by omega)]; omega), qm152y (Nat.zero_le k) hk (by omega), xr_cI_s, if_neg (by rw [xn_eq (by omega) (by omega)]; omega), qm218y hpq (by omega) I1.1.2.1.2.1, xr_cI_s, if_neg (by rw [xn_eq (by omega) (by omega)]; omega), qm151f _ _ e0, xr_cI_s, if_pos rfl, r2]
              refine (xg264_71 _ _ _ _ _ _ _ _ _ _ _ _ _).trans ?_
              rw [if_neg (by rw [xn_lt (by omega) (by omega)]; omega), if_neg (show ¬ m = 0 by omega)]
              rcases (by omega : k = 0 ∨ k = 1 ∨ k = 2) with rfl | rfl | rfl
              · simp (disch := omega) only [xn_eq, if_true, if_false, Nat.reduceEqDiff]
              · simp (disch := omega) only [xn_eq, if_true, if_false, Nat.reduceEqDiff]
              · simp (disch := omega) only [xn_eq, if_true, if_false, Nat.reduceEqDiff]
            · rw [F2b 0 (by omega), xw_y (by omega)]
            · rw [F2a b e (by omega), xw_r (by omega), F1 b e (by omega)]
            · rw [F2b j (by omega), xw_n (by omega), F1 0 69 (by omega)]
          · refine Or.inr (Or.inr ⟨by omega, qNo_of (nI 0) (by omega) ?_ (fun T hT => ?_)⟩)
            · rw [xe135, qc141y hm1 hm (by omega), xr_cV_s, qc141y (Nat.zero_le q) hq (by omega), xr_cV_s, qc141y hy1 hy (by omega), xr_cV_s, qc141y (Nat.zero_le k) hk (by omega), xr_cV_s, p1, qc141m (by omega) q3, xr_cV_e]
            · rw [xe264]; have e0 : xm (xs T (xw (xm T) 0 69 0 (nI 0))) 0 69 0 = nI 0 := (by rw [xm_xs, xw_y (by omega)]); have f1 : xm (xs T (xw (xm T) 0 69 0 (nI 0))) 0 73 1 = nI nq := (by rw [xm_xs, xw_n (by omega), hT, xw_n (by omega)]; exact m1)
              simp (disch := omega) only [xi_t, xn_k, xn_lt, xn_eq, xn_mul, xn_add, xn_sub, xn_dec, xn_m1, xn_1m, if_pos, if_neg, if_true, if_false, cond_true, cond_false, true_and, and_true, false_and, and_false, xr_cI_s, xr_cV_s, xr_cI_e, xr_cV_e, xm_xs, xs_xs, qm152y hm1 hm, qm262y hq hy1 hy, qm152y (Nat.zero_le k) hk, qm218n (by omega) f1 q3, qm151t (t := 1) (r := 1) (by omega) (by omega) (by omega) e0]
        · refine Or.inr (Or.inr ⟨by omega, qNo_of (nI 0) (by omega) ?_ (fun T hT => ?_)⟩)
          · rw [xe135, qc141y hm1 hm (by omega), xr_cV_s, qc141y (Nat.zero_le q) hq (by omega), xr_cV_s, qc141y hy1 hy (by omega), xr_cV_s, qc141n (by omega) (by omega) q2, xr_cV_e]
          · rw [xe264]; have e0 : xm (xs T (xw (xm T) 0 69 0 (nI 0))) 0 69 0 = nI 0 := (by rw [xm_xs, xw_y (by omega)])
            simp (disch := omega) only [xi_t, xn_k, xn_lt, xn_eq, xn_mul, xn_add, xn_sub, xn_dec, xn_m1, xn_1m, if_pos, if_neg, if_true, if_false, cond_true, cond_false, true_and, and_true, false_and, and_false, xr_cI_s, xr_cV_s, xr_cI_e, xr_cV_e, xm_xs, xs_xs, qm152y hm1 hm, qm262y hq hy1 hy, qm152n (by omega) (by omega) q2, qm151t (t := 1) (r := 1) (by omega) (by omega) (by omega) e0]
      · refine Or.inr (Or.inr ⟨by omega, qNo_of (nI 0) (by omega) ?_ (fun T hT => ?_)⟩)
        · rw [xe135, qc141y hm1 hm (by omega), xr_cV_s, qc141y (Nat.zero_le q) hq (by omega), xr_cV_s, qc141n (by omega) (by omega) q1, xr_cV_e]
        · rw [xe264]; have e0 : xm (xs T (xw (xm T) 0 69 0 (nI 0))) 0 69 0 = nI 0 := (by rw [xm_xs, xw_y (by omega)])
          simp (disch := omega) only [xi_t, xn_k, xn_lt, xn_eq, xn_mul, xn_add, xn_sub, xn_dec, xn_m1, xn_1m, if_pos, if_neg, if_true, if_false, cond_true, cond_false, true_and, and_true, false_and, and_false, xr_cI_s, xr_cV_s, xr_cI_e, xr_cV_e, xm_xs, xs_xs, qm152y hm1 hm, qm262b hq q1, qm151t (t := 1) (r := 1) (by omega) (by omega) (by omega) e0]
    · refine Or.inr (Or.inr ⟨by omega, qNo_of (nI 0) (by omega) ?_ (fun T hT => ?_)⟩)
      · rw [xe135, qc141y hm1 hm (by omega), xr_cV_s, qc141n (by omega) (by omega) q, xr_cV_e]
      · rw [xe264]; have e0 : xm (xs T (xw (xm T) 0 69 0 (nI 0))) 0 69 0 = nI 0 := (by rw [xm_xs, xw_y (by omega)])
        simp (disch := omega) only [xi_t, xn_k, xn_lt, xn_eq, xn_mul, xn_add, xn_sub, xn_dec, xn_m1, xn_1m, if_pos, if_neg, if_true, if_false, cond_true, cond_false, true_and, and_true, false_and, and_false, xr_cI_s, xr_cV_s, xr_cI_e, xr_cV_e, xm_xs, xs_xs, qm152y hm1 hm, qm262a q, qm151t (t := 1) (r := 1) (by omega) (by omega) (by omega) e0]
  · refine Or.inr (Or.inr ⟨by omega, qNo_of (nI 0) (by omega) ?_ (fun T hT => ?_)⟩)
    · rw [xe135, qc141n (by omega) (by omega) q0, xr_cV_e]
    · rw [xe264]; have e0 : xm (xs T (xw (xm T) 0 69 0 (nI 0))) 0 69 0 = nI 0 := (by rw [xm_xs, xw_y (by omega)])
      simp (disch := omega) only [xi_t, xn_k, xn_lt, xn_eq, xn_mul, xn_add, xn_sub, xn_dec, xn_m1, xn_1m, if_pos, if_neg, if_true, if_false, cond_true, cond_false, true_and, and_true, false_and, and_false, xr_cI_s, xr_cV_s, xr_cI_e, xr_cV_e, xm_xs, xs_xs, qm152n (by omega) (by omega) q0, qm151t (t := 1) (r := 1) (by omega) (by omega) (by omega) e0]
end
