/-! THE WORK'S STEPS: the class, one step -/
section
variable {d : Nat} {w : List Nat} {S : xr_S} {c : Nat} {np nq ch st : Nat} {du pl : Nat → Nat} {dy : Nat → Int32} {dp : Nat → Nat → Nat} {g : Nat → Int32} {h : Nat → Nat} {s : Nat → Nat → Int32}
theorem gc7 (hc : c = 3 ∨ c = 12) (P : xPl (xm S) np nq ch st du pl dy dp) (G : xGr (xm S) 0 c np nq pl g) (W : xgW np nq pl g) {p : Nat} (hpq : p < nq) : (¬ ((g (8 + p) = nI 0 ∧ gap g (2 * p) (2 * p + 1) (pl p) ≤ ch) ∧ ¬ g (gN g (16 + (2 * p + 1))) < nI (du p)) → xr_Call (d + 3) 7 [xP 0 c, xP 0 35, xI (nI p)] ([], w) S = some (.inl (some (nI 0)), ([], w), S)) ∧ ((g (8 + p) = nI 0 ∧ gap g (2 * p) (2 * p + 1) (pl p) ≤ ch) ∧ ¬ g (gN g (16 + (2 * p + 1))) < nI (du p) → ∃ M, xr_Call (d + 3) 7 [xP 0 c, xP 0 35, xI (nI p)] ([], w) S = some (.inl (some (nI 1)), ([], w), xs S M) ∧ xGr M 0 c np nq pl (gpay du g p) ∧ ∀ b e, ¬ (b = 0 ∧ (e = c + 1 ∨ e = c + 2)) → M b e = xm S b e) := by
  have P' := P
  have G' := G
  obtain ⟨⟨p0, p1, p2, p3⟩, ⟨m0, m1, m2, m3⟩, ⟨b0, b1, b2, b3, b4⟩, hp, hd⟩ := P
  obtain ⟨g0, g1, g2, g3, g4, g5⟩ := G
  obtain ⟨c39, c40, c41, e2, e3, e4, l1, l2, l3⟩ := hp p hpq
  obtain ⟨wa, la⟩ := W.1 (2 * p + 1) (by omega)
  obtain ⟨wb, lb⟩ := W.1 (2 * p) (by omega)
  have f3a := (g3 (2 * p + 1) (by omega)).trans wa
  have f3b := (g3 (2 * p) (by omega)).trans wb
  have f2 := g2 p hpq
  have f14 := gc14 (d := d) (w := w) hc P' G' W hpq
  have z : ¬ nI 1 = nI 0 := by decide
  generalize hP : gN g (16 + (2 * p + 1)) = a at *
  generalize hT : gN g (16 + 2 * p) = t at *
  have f1 := g1 a la
  constructor
  · intro q
    rw [xe7 (d + 2) w S c hc]
    by_cases q1 : g (8 + p) = nI 0
    · by_cases q2 : gap g (2 * p) (2 * p + 1) (pl p) ≤ ch
      · have q3 : g a < nI (du p) := Classical.not_not.mp (fun q3 => q ⟨⟨q1, q2⟩, q3⟩)
        unfold bI at f14
        rw [if_pos q2] at f14
        simp (disch := omega) only [xi_t, xn_k, xn_lt, xn_eq, xn_mul, xn_add, xn_sub, xn_dec, xn_m1, xn_1m, if_pos, if_neg, if_true, if_false, cond_true, cond_false, true_and, and_true, false_and, and_false, xr_cI_s, xr_cV_s, xr_cI_e, xr_cV_e, xm_xs, xs_xs, f2, q1, f14, f3a, f1, c39, q3]
      · unfold bI at f14
        rw [if_neg q2] at f14
        simp (disch := omega) only [xi_t, xn_k, xn_lt, xn_eq, xn_mul, xn_add, xn_sub, xn_dec, xn_m1, xn_1m, if_pos, if_neg, if_true, if_false, cond_true, cond_false, true_and, and_true, false_and, and_false, xr_cI_s, xr_cV_s, xr_cI_e, xr_cV_e, xm_xs, xs_xs, f2, q1, f14]
    · simp (disch := omega) only [xi_t, xn_k, xn_lt, xn_eq, xn_mul, xn_add, xn_sub, xn_dec, xn_m1, xn_1m, if_pos, if_neg, if_true, if_false, cond_true, cond_false, true_and, and_true, false_and, and_false, xr_cI_s, xr_cV_s, xr_cI_e, xr_cV_e, xm_xs, xs_xs, f2, q1]
  · rintro ⟨⟨q1, q2⟩, q3⟩
    refine ⟨xw (xw (xw (xm S) 0 (c + 1) a (g a - nI (du p))) 0 (c + 1) t (xw (xm S) 0 (c + 1) a (g a - nI (du p)) 0 (c + 1) t + nI (du p))) 0 (c + 2) p (nI 1), ?_, ?_, fun b e hb => ?_⟩
    · rw [xe7 (d + 2) w S c hc]
      unfold bI at f14
      rw [if_pos q2] at f14
      simp (disch := omega) only [xi_t, xn_k, xn_mul, xn_add, cond_true, xr_cI_s, f2, q1, f14, f3a, f3b, f1, c39, q3, z, if_true, if_false, xw_n]
    · have G1 := xGr_w G' (by omega) la (g a - nI (du p))
      have e9 := G1.2.1 t lb
      have G2 := xGr_w G1 (by omega) lb (xw (xm S) 0 (c + 1) a (g a - nI (du p)) 0 (c + 1) t + nI (du p))
      have G3 := xGr_s G2 (by omega) (by omega) hpq (nI 1)
      unfold gpay
      rw [hP, hT, ← e9]
      exact G3
    · rw [xw_r (by omega), xw_r (by omega), xw_r (by omega)]
theorem gc8 (hc : c = 3 ∨ c = 12) (n1 : np ≤ 8) (n2 : nq ≤ 8) (G : xGr (xm S) 0 c np nq pl g) {p x y : Nat} (hpq : p < nq) (hx : x < 2) : (¬ (g (8 + p) = nI 0 ∧ ¬ g (16 + (2 * p + x)) = nI y) → xr_Call (d + 1) 8 [xP 0 c, xI (nI p), xI (nI x), xI (nI y)] ([], w) S = some (.inl (some (nI 0)), ([], w), S)) ∧ (g (8 + p) = nI 0 ∧ ¬ g (16 + (2 * p + x)) = nI y → ∃ M, xr_Call (d + 1) 8 [xP 0 c, xI (nI p), xI (nI x), xI (nI y)] ([], w) S = some (.inl (some (nI 1)), ([], w), xs S M) ∧ xGr M 0 c np nq pl (ggive g (2 * p + x) y) ∧ ∀ b e, ¬ (b = 0 ∧ (e = c + 3 ∨ e = c + 4)) → M b e = xm S b e) := by
  have G' := G
  obtain ⟨g0, g1, g2, g3, g4, g5⟩ := G
  have f2 := g2 p hpq
  have f3 := g3 (2 * p + x) (by omega)
  constructor
  · intro q
    rw [xe8 d w S c hc]
    by_cases q1 : g (8 + p) = nI 0
    · have q2 : g (16 + (2 * p + x)) = nI y := Classical.not_not.mp (fun q2 => q ⟨q1, q2⟩)
      simp (disch := omega) only [xi_t, xn_k, xn_lt, xn_eq, xn_mul, xn_add, xn_sub, xn_dec, xn_m1, xn_1m, if_pos, if_neg, if_true, if_false, cond_true, cond_false, true_and, and_true, false_and, and_false, xr_cI_s, xr_cV_s, xr_cI_e, xr_cV_e, xm_xs, xs_xs, f2, q1, f3, q2]
    · simp (disch := omega) only [xi_t, xn_k, xn_lt, xn_eq, xn_mul, xn_add, xn_sub, xn_dec, xn_m1, xn_1m, if_pos, if_neg, if_true, if_false, cond_true, cond_false, true_and, and_true, false_and, and_false, xr_cI_s, xr_cV_s, xr_cI_e, xr_cV_e, xm_xs, xs_xs, f2, q1]
  · rintro ⟨q1, q2⟩
    refine ⟨xw (xw (xm S) 0 (c + 3) (2 * p + x) (nI y)) 0 (c + 4) (2 * p + x) (nI 0), ?_, xGr_a (xGr_h G' n1 n2 (by omega) _) n1 n2 (by omega) _, fun b e hb => ?_⟩
    · rw [xe8 d w S c hc]
      simp (disch := omega) only [xi_t, xn_k, xn_lt, xn_eq, xn_mul, xn_add, xn_sub, xn_dec, xn_m1, xn_1m, if_pos, if_neg, if_true, if_false, cond_true, cond_false, true_and, and_true, false_and, and_false, xr_cI_s, xr_cV_s, xr_cI_e, xr_cV_e, xm_xs, xs_xs, f2, q1, f3, q2]
    · rw [xw_r (by omega), xw_r (by omega)]
theorem gc9 {p x st f : Nat} (hp : p < 8) (hx : x < 8) (h1 : 1 ≤ st) (h9 : st ≤ 9) (hf : 17000 ≤ f) (hf2 : f < 800000) (H : xhC (xm S 0 10) (xm S 0 11) h s) (I : hI h s) : ((hcol h s (nI p)).isSome = true → xr_Call (d + 4) 9 [xP 0 3, xI (nI p), xI (nI x), xI (nI st)] ([], w) S = some (.inl (some (nI 0)), ([], w), S)) ∧ (¬ (hcol h s (nI p)).isSome = true → ∃ M, xr_Call (d + 4) 9 [xP 0 3, xI (nI p), xI (nI x), xI (nI st)] ([], w) S = some (.inl (some (nI 1)), ([], w), xs S M) ∧ xhC (M 0 10) (M 0 11) (hset st f (hup h x (h x + 1)) (hus s x (h x) (nI p))).2.1 (hset st f (hup h x (h x + 1)) (hus s x (h x) (nI p))).2.2 ∧ ∀ b e, ¬ (b = 0 ∧ (e = 10 ∨ e = 11)) → M b e = xm S b e) := by
  have B := hG_B (hI_G I)
  have b1 := B x hx
  have c38 := hc38 (d := d + 1) (w := w) (S := S) (c := 9) (Or.inl rfl) H (xhB_le (by omega) B) (nI p)
  have pre : xr_Call (d + 4) 9 [xP 0 3, xI (nI p), xI (nI x), xI (nI st)] ([], w) S = _ := xe9 (d + 3) w S 3 (Or.inl rfl) (nI p) (nI x) (nI st)
  rw [show xr_Call (d + 3) 38 [xP 0 (3 + 6), xI (nI p)] ([], w) S = _ from c38, xr_cI_s] at pre
  cases hq : hcol h s (nI p) with
  | some z =>
    refine ⟨fun _ => ?_, fun q => absurd rfl q⟩
    have hz := (hcol_some hq).1
    rw [hq] at pre
    rw [pre, if_neg (show ¬ oI (some z) = -1 from fun e => (xn_m1 (show z < 2147483648 by omega)).mp e)]
  | none =>
    refine ⟨(fun q => by cases q), fun _ => ?_⟩
    rw [hq, if_pos (show oI none = -1 from rfl)] at pre
    obtain ⟨M1, e1, H1, F1⟩ := hc29 (d := d + 2) (w := w) (S := S) (c := 9) (Or.inl rfl) H (xhB_le (by omega) B) hx (by omega) (nI p)
    have B1 : xhB 46 (hup h x (h x + 1)) := hup_B B (by omega)
    have q1 := hsq_le B1
    obtain ⟨M2, e2, H2, F2⟩ := hc35 (d := d) (w := w) (S := xs S M1) (c := 9) (Or.inl rfl) (show st < 100 by omega) h1 H1 (xhB_le (by omega) B1) (n := f) (by omega) hf2
    refine ⟨M2, ?_, H2, fun b e hb => by rw [F2 b e (by omega), xm_xs, F1 b e (by omega)]⟩
    rw [pre, show xr_Call (d + 3) 29 [xP 0 (3 + 6), xI (nI x), xI (nI p)] ([], w) S = _ from e1, xr_cV_s, show xr_Call (d + 3) 35 [xP 0 (3 + 6), xI (nI st)] ([], w) (xs S M1) = _ from e2, xr_cI_s, xs_xs]
theorem gc10 {x st f : Nat} (hx : x < 8) (h1 : 1 ≤ st) (h9 : st ≤ 9) (hf : 17000 ≤ f) (hf2 : f < 800000) (H : xhC (xm S 0 10) (xm S 0 11) h s) (I : hI h s) : (h x = 0 → xr_Call (d + 4) 10 [xP 0 3, xI (nI x), xI (nI st)] ([], w) S = some (.inl (some (nI 0)), ([], w), S)) ∧ (¬ h x = 0 → ∃ M, xr_Call (d + 4) 10 [xP 0 3, xI (nI x), xI (nI st)] ([], w) S = some (.inl (some (nI 1)), ([], w), xs S M) ∧ xhC (M 0 10) (M 0 11) (hset st f (hup h x (h x - 1)) s).2.1 (hset st f (hup h x (h x - 1)) s).2.2 ∧ ∀ b e, ¬ (b = 0 ∧ (e = 10 ∨ e = 11)) → M b e = xm S b e) := by
  have B := hG_B (hI_G I)
  have b1 := B x hx
  have pre : xr_Call (d + 4) 10 [xP 0 3, xI (nI x), xI (nI st)] ([], w) S = _ := xe10 (d + 3) w S 3 (Or.inl rfl) (nI x) (nI st)
  rw [xi_t (by omega) (by omega), cond_true, xn_k (by omega), show xm S 0 (3 + 7) x = nI (h x) from H.1 x hx] at pre
  refine ⟨fun q => by rw [pre, q, if_pos rfl], fun q => ?_⟩
  rw [if_neg (by rw [xn_eq (by omega) (by omega)]; exact q)] at pre
  obtain ⟨M1, e1, H1, F1⟩ := hc30 (d := d + 2) (w := w) (S := S) (c := 9) (Or.inl rfl) H (xhB_le (by omega) B) hx (Nat.pos_of_ne_zero q)
  have B1 : xhB 46 (hup h x (h x - 1)) := hup_B B (by omega)
  have q1 := hsq_le B1
  obtain ⟨M2, e2, H2, F2⟩ := hc35 (d := d) (w := w) (S := xs S M1) (c := 9) (Or.inl rfl) (show st < 100 by omega) h1 H1 (xhB_le (by omega) B1) (n := f) (by omega) hf2
  refine ⟨M2, ?_, H2, fun b e hb => by rw [F2 b e (by omega), xm_xs, F1 b e (by omega)]⟩
  rw [pre, show xr_Call (d + 3) 30 [xP 0 (3 + 6), xI (nI x)] ([], w) S = _ from e1, xr_cI_s, show xr_Call (d + 3) 35 [xP 0 (3 + 6), xI (nI st)] ([], w) (xs S M1) = _ from e2, xr_cI_s, xs_xs]
end
section
variable {d : Nat} {S : xr_S} {np nq ch st : Nat} {du pl : Nat → Nat} {dy : Nat → Int32} {dp : Nat → Nat → Nat} {sz : Nat} {kd : Nat → Nat} {gv : Nat → Int32}
theorem tc146 {f j : Nat} (hf : 17000 ≤ f) (hf2 : f < 800000) (P : xPl (xm S) np nq ch st du pl dy dp) (L : xLc (xm S) sz kd gv) (V : xLv sz kd) {v : Nat × Nat × Nat × Nat} (hv : wRok np nq v) (h5 : v.1 ≠ 5) (hj : j < 150) (C : cRw (xm S) j v) {G : aG} (hG : aGk np nq pl G) (G3 : xGr (xm S) 0 3 np nq pl G.1) (H : xhC (xm S 0 10) (xm S 0 11) G.2.1 G.2.2) : ∃ M, xr_Call (d + 6) 146 [xP 0 0, xI (nI j)] xMd S = some (.inl (some (cond (aDo f st ch du pl dy nq sz kd gv v G).1 (nI 1) (nI 0))), xMd, xs S M) ∧ xGr M 0 3 np nq pl (aDo f st ch du pl dy nq sz kd gv v G).2.1 ∧ xhC (M 0 10) (M 0 11) (aDo f st ch du pl dy nq sz kd gv v G).2.2.1 (aDo f st ch du pl dy nq sz kd gv v G).2.2.2 ∧ ∀ b e, ¬ (b = 0 ∧ ((3 ≤ e ∧ e ≤ 11) ∨ e = 56 ∨ e = 57)) → M b e = xm S b e := by
  obtain ⟨k, p, x, y⟩ := v
  obtain ⟨g, h, s⟩ := G
  obtain ⟨W, I⟩ := hG
  obtain ⟨v1, v2, v3, v4, v5, v6⟩ := hv
  obtain ⟨C1, C2, C3, C4⟩ := C
  dsimp only at v1 v2 v3 v4 v5 v6 W I C1 C2 C3 C4 h5 G3 H
  have P' := P
  obtain ⟨⟨p0, p1, p2, p3⟩, ⟨m0, m1, m2, m3⟩, ⟨b0, b1, b2, b3, b4⟩, hp, hd⟩ := P
  have pre : xr_Call (d + 6) 146 [xP 0 0, xI (nI j)] xMd S = _ := xe146 (d + 5) S (nI j)
  rw [xi_t hj (by omega), cond_true, cond_true, xn_k (by omega), C1] at pre
  have i150 : xr_in (nI j) 150 = true := xi_t hj (by omega)
  have hk : k = 0 ∨ k = 1 ∨ k = 2 ∨ k = 3 ∨ k = 4 := by omega
  unfold aDo
  dsimp only
  rcases hk with rfl | rfl | rfl | rfl | rfl
  · have hp := v2 (by omega)
    rw [C2 (by omega)] at pre
    obtain ⟨n, y⟩ := gc7 (d := d + 2) (w := [35, 44, 53, 58, 63, 66]) (Or.inl rfl) P' G3 W hp
    by_cases q : (g (8 + p) = nI 0 ∧ gap g (2 * p) (2 * p + 1) (pl p) ≤ ch) ∧ ¬ g (gN g (16 + (2 * p + 1))) < nI (du p)
    · obtain ⟨M, e, G4, F⟩ := y q
      rw [if_pos q]
      refine ⟨M, ?_, G4, ?_, fun b e hb => F b e (by omega)⟩
      · rw [pre, xg146_19_0, show xr_Call (d + 5) 7 [xP 0 3, xP 0 35, xI (nI p)] xMd S = _ from e, xr_cI_s, xok1]; rfl
      · rw [F 0 10 (by omega), F 0 11 (by omega)]; exact H
    · rw [if_neg q]
      refine ⟨xm S, ?_, G3, H, fun _ _ _ => rfl⟩
      rw [pre, xg146_19_0, show xr_Call (d + 5) 7 [xP 0 3, xP 0 35, xI (nI p)] xMd S = _ from n q, xr_cI_s, xok0]; rfl
  · have hp := v2 (by omega)
    obtain ⟨hx, hy⟩ := v3 rfl
    rw [C2 (by omega)] at pre
    obtain ⟨n, z⟩ := gc8 (d := d + 4) (w := [35, 44, 53, 58, 63, 66]) (y := y) (Or.inl rfl) (show np ≤ 8 by omega) (by omega) G3 hp hx
    have pre2 : xr_Call (d + 6) 146 [xP 0 0, xI (nI j)] xMd S = _ := pre.trans (xg146_19_1 (d + 5) S (nI j) (nI p))
    rw [i150, cond_true, cond_true, xn_k (by omega), C3 (by omega), C4 (by omega)] at pre2
    by_cases q : g (8 + p) = nI 0 ∧ ¬ g (16 + (2 * p + x)) = nI y
    · obtain ⟨M, e, G4, F⟩ := z q
      rw [if_pos q]
      refine ⟨M, ?_, G4, ?_, fun b e hb => F b e (by omega)⟩
      · rw [pre2, show xr_Call (d + 5) 8 [xP 0 3, xI (nI p), xI (nI x), xI (nI y)] xMd S = _ from e, xr_cI_s, xok1]; rfl
      · rw [F 0 10 (by omega), F 0 11 (by omega)]; exact H
    · rw [if_neg q]
      refine ⟨xm S, ?_, G3, H, fun _ _ _ => rfl⟩
      rw [pre2, show xr_Call (d + 5) 8 [xP 0 3, xI (nI p), xI (nI x), xI (nI y)] xMd S = _ from n q, xr_cI_s, xok0]; rfl
  · have hp := v2 (by omega)
    have hx := v4 rfl
    rw [C2 (by omega)] at pre
    obtain ⟨n, z⟩ := gc9 (d := d + 1) (w := [35, 44, 53, 58, 63, 66]) (S := S) (p := p) (x := x) (st := st) (f := f) (by omega) hx (by omega) (by omega) hf hf2 H I
    have pre2 : xr_Call (d + 6) 146 [xP 0 0, xI (nI j)] xMd S = _ := pre.trans (xg146_19_2 (d + 5) S (nI j) (nI p))
    rw [i150, cond_true, xn_k (by omega), C3 (by omega), p3] at pre2
    by_cases q : (hcol h s (nI p)).isSome = true
    · rw [if_pos q]
      refine ⟨xm S, ?_, G3, H, fun _ _ _ => rfl⟩
      rw [pre2, show xr_Call (d + 5) 9 [xP 0 3, xI (nI p), xI (nI x), xI (nI st)] xMd S = _ from n q, xr_cI_s, xok0]; rfl
    · obtain ⟨M, e, H4, F⟩ := z q
      rw [if_neg q]
      refine ⟨M, ?_, xGr_fr (fun e h1 h2 => F 0 e (by omega)) G3, H4, fun b e hb => F b e (by omega)⟩
      rw [pre2, show xr_Call (d + 5) 9 [xP 0 3, xI (nI p), xI (nI x), xI (nI st)] xMd S = _ from e, xr_cI_s, xok1]; rfl
  · have hp := v5 rfl
    rw [C2 (by omega)] at pre
    obtain ⟨n, z⟩ := gc10 (d := d + 1) (w := [35, 44, 53, 58, 63, 66]) (S := S) (x := p) (st := st) (f := f) hp (by omega) (by omega) hf hf2 H I
    have pre2 : xr_Call (d + 6) 146 [xP 0 0, xI (nI j)] xMd S = _ := pre.trans (xg146_19_3 (d + 5) S (nI j) (nI p))
    rw [p3] at pre2
    by_cases q : h p = 0
    · rw [if_pos q]
      refine ⟨xm S, ?_, G3, H, fun _ _ _ => rfl⟩
      rw [pre2, show xr_Call (d + 5) 10 [xP 0 3, xI (nI p), xI (nI st)] xMd S = _ from n q, xr_cI_s, xok0]; rfl
    · obtain ⟨M, e, H4, F⟩ := z q
      rw [if_neg q]
      refine ⟨M, ?_, xGr_fr (fun e h1 h2 => F 0 e (by omega)) G3, H4, fun b e hb => F b e (by omega)⟩
      rw [pre2, show xr_Call (d + 5) 10 [xP 0 3, xI (nI p), xI (nI st)] xMd S = _ from e, xr_cI_s, xok1]; rfl
  · have pre2 : xr_Call (d + 6) 146 [xP 0 0, xI (nI j)] xMd S = _ := pre.trans (xg146_19_4 (d + 5) S (nI j) (xm S 0 23 j))
    rw [G3.1] at pre2
    by_cases q : g 144 < nI 200
    · obtain ⟨M, e, G4, F⟩ := gc11 (d := d) (w := [35, 44, 53, 58, 63, 66]) (Or.inl rfl) V W P' L G3
      rw [if_pos q]
      rw [if_pos q] at pre2
      refine ⟨M, ?_, G4, ?_, fun b e hb => F b e (by omega)⟩
      · rw [pre2, show xr_Call (d + 5) 11 [xP 0 3, xP 0 35, xP 0 53] xMd S = _ from e, xr_cV_s]; rfl
      · rw [F 0 10 (by omega), F 0 11 (by omega)]; exact H
    · rw [if_neg q]
      rw [if_neg q] at pre2
      exact ⟨xm S, pre2, G3, H, fun _ _ _ => rfl⟩
end
