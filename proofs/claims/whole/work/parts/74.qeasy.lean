/-! QUESTIONS, 1 -/
def xTo (M : xr_M) (ln : Nat) (ti : Nat → Nat) (fl : Nat → Option Nat) : Prop := (M 0 63 2 = nI ln ∧ M 0 69 35 = nI ln ∧ ln ≤ 6) ∧ (∀ i, i < 6 → M 0 64 i = oI (fl i) ∧ ∀ v, fl i = some v → v ≤ 9) ∧ (∀ k, k < ln → M k 1084 0 = nI (ti k) ∧ ti k < 6 ∧ ∃ v, fl (ti k) = some v ∧ M k 1084 1 = nI v) ∧ ∀ i v, i < 6 → fl i = some v → ∃ k, k < ln ∧ ti k = i
def xIq (M : xr_M) (np nq ch st : Nat) (du pl : Nat → Nat) (dy : Nat → Int32) (dp : Nat → Nat → Nat) (sz : Nat) (kd : Nat → Nat) (gv g : Nat → Int32) (h : Nat → Nat) (s : Nat → Nat → Int32) (ln : Nat) (ti : Nat → Nat) (fl : Nat → Option Nat) : Prop :=
  xPl M np nq ch st du pl dy dp ∧ (xLc M sz kd gv ∧ xLm M sz kd gv ∧ xLv sz kd) ∧ (M 0 89 = g ∧ xGr M 0 3 np nq pl g ∧ xgW np nq pl g) ∧ (xhC (M 0 10) (M 0 11) h s ∧ xhM g h s ∧ hI h s) ∧ xTo M ln ti fl
/-- what the questions' invariant doesn't look at -/
def xKq (M M' : xr_M) : Prop := (∀ b e, ¬ (b = 0 ∧ (e = 0 ∨ e = 1 ∨ e = 2 ∨ e = 69 ∨ e = 70 ∨ e = 71 ∨ e = 72 ∨ (12 ≤ e ∧ e ≤ 34) ∨ (44 ≤ e ∧ e ≤ 52) ∨ (56 ≤ e ∧ e ≤ 62) ∨ (65 ≤ e ∧ e ≤ 68) ∨ (74 ≤ e ∧ e ≤ 77) ∨ e = 86 ∨ e = 87 ∨ e = 90 ∨ e = 93 ∨ e = 94)) → ¬ (1 ≤ b ∧ e < 10) → ¬ (e = 1078 ∨ e = 1080 ∨ e = 1083 ∨ e = 1085 ∨ e = 1088 ∨ e = 1091 ∨ e = 1092) → M' b e = M b e) ∧ M' 0 69 21 = M 0 69 21 ∧ M' 0 69 35 = M 0 69 35
theorem xKp_q {M M' : xr_M} (K : xKp M M') : xKq M M' := ⟨fun b e h1 _ _ => K.1 b e (by omega), K.2 21 (by omega) (by omega), K.2 35 (by omega) (by omega)⟩
theorem xTo_fr {M M' : xr_M} {ln : Nat} {ti : Nat → Nat} {fl : Nat → Option Nat} (h1 : M' 0 63 = M 0 63) (h2 : M' 0 64 = M 0 64) (h3 : ∀ k, M' k 1084 = M k 1084) (h4 : M' 0 69 35 = M 0 69 35) (To : xTo M ln ti fl) : xTo M' ln ti fl := by
  unfold xTo at To ⊢
  rw [h1, h2, h4]
  refine ⟨To.1, To.2.1, fun k hk => ?_, To.2.2.2⟩
  rw [h3 k]
  exact To.2.2.1 k hk
theorem xIq_fr {M M' : xr_M} {np nq ch st : Nat} {du pl : Nat → Nat} {dy : Nat → Int32} {dp : Nat → Nat → Nat} {sz : Nat} {kd : Nat → Nat} {gv g : Nat → Int32} {h : Nat → Nat} {s : Nat → Nat → Int32} {ln : Nat} {ti : Nat → Nat} {fl : Nat → Option Nat} (K : xKq M M') (I : xIq M np nq ch st du pl dy dp sz kd gv g h s ln ti fl) : xIq M' np nq ch st du pl dy dp sz kd gv g h s ln ti fl := by
  obtain ⟨P, ⟨Lc, Lm, Lv⟩, ⟨e89, G, W⟩, ⟨Hc, Hm, HI⟩, To⟩ := I
  obtain ⟨K1, K2, K3⟩ := K
  refine ⟨xPl_fr (fun b e he => K1 b e (by omega) (by omega) (by omega)) P, ⟨xLc_fr (fun e he => K1 0 e (by omega) (by omega) (by omega)) Lc, xLm_fr (fun k => K1 k 1082 (by omega) (by omega) (by omega)) K2 Lm, Lv⟩, ⟨?_, xGr_fr (fun e h1 h2 => K1 0 e (by omega) (by omega) (by omega)) G, W⟩, ⟨?_, Hm, HI⟩, xTo_fr (K1 0 63 (by omega) (by omega) (by omega)) (K1 0 64 (by omega) (by omega) (by omega)) (fun k => K1 k 1084 (by omega) (by omega) (by omega)) K3 To⟩
  · rw [K1 0 89 (by omega) (by omega) (by omega)]; exact e89
  · rw [K1 0 10 (by omega) (by omega) (by omega), K1 0 11 (by omega) (by omega) (by omega)]; exact Hc
theorem xT_ex {S : xr_S} {np nq ch st : Nat} {du pl : Nat → Nat} {dy : Nat → Int32} {dp : Nat → Nat → Nat} {sz : Nat} {kd : Nat → Nat} {gv g : Nat → Int32} {h : Nat → Nat} {s : Nat → Nat → Int32} {ln : Nat} {ti : Nat → Nat} {fl : Nat → Option Nat} (I : xIq (xm S) np nq ch st du pl dy dp sz kd gv g h s ln ti fl) : ∃ T, T = xs S (xw (xm S) 0 69 0 (nI 0)) ∧ xm T 0 69 0 = nI 0 ∧ xIq (xm T) np nq ch st du pl dy dp sz kd gv g h s ln ti fl := ⟨_, rfl, by rw [xm_xs, xw_y (by omega)], by rw [xm_xs]; exact xIq_fr (xKp_q (xKp_t _ _)) I⟩
theorem qOk_of {d i j : Nat} {as : List xr_V} {S : xr_S} {r : Int32} (c : xr_Call (d + 60) i (xP 0 0 :: as) xMd S = some (.inl (some r), xMd, S)) (m : xr_Call (d + 60) j (xP 0 69 :: as) xMd S = some (.inl (some r), xMd, xs S (xw (xm S) 0 69 0 (nI 0)))) : qOk d i j as S r := ⟨xm S, xw (xm S) 0 69 0 (nI 0), c, m, by rw [xw_y (by omega)], xKp_t _ _⟩
section
variable {d : Nat} {S : xr_S} {np nq ch st : Nat} {du pl : Nat → Nat} {dy : Nat → Int32} {dp : Nat → Nat → Nat} {sz : Nat} {kd : Nat → Nat} {gv g : Nat → Int32} {h : Nat → Nat} {s : Nat → Nat → Int32} {ln : Nat} {ti : Nat → Nat} {fl : Nat → Option Nat}
theorem q_has (I : xIq (xm S) np nq ch st du pl dy dp sz kd gv g h s ln ti fl) (a : Int32) : qRes d 108 221 [xI a] S 1 0 := by
  obtain ⟨P, ⟨Lc, Lm, Lv⟩, ⟨e89, G, W⟩, ⟨Hc, Hm, HI⟩, To⟩ := id I; obtain ⟨⟨p0, p1, p2, p3⟩, ⟨m0, m1, m2, m3⟩, ⟨b0, b1, b2, b3, b4⟩, hp, hd⟩ := id P
  by_cases q : xrl a np
  · obtain ⟨k, hk, rfl⟩ := q
    refine Or.inl ⟨g k, qOk_of ?_ ?_⟩
    · rw [xe108]; simp (disch := omega) only [xi_t, xn_k, xn_lt, xn_eq, xn_mul, xn_add, xn_sub, xn_dec, xn_m1, xn_1m, if_pos, if_neg, if_true, if_false, cond_true, cond_false, true_and, and_true, false_and, and_false, xr_cI_s, xr_cV_s, xr_cI_e, xr_cV_e, xm_xs, xs_xs, p0, qc140y hk, G.2.1 k hk]
    · rw [xe221]; obtain ⟨T, hT, e0, I'⟩ := xT_ex I; rw [← hT]; obtain ⟨P', ⟨Lc', Lm', Lv'⟩, ⟨e89', G', W'⟩, ⟨Hc', Hm', HI'⟩, To'⟩ := id I'; obtain ⟨⟨p0', p1', p2', p3'⟩, ⟨m0', m1', m2', m3'⟩, ⟨b0', b1', b2', b3', b4'⟩, hp', hd'⟩ := id P'
      simp (disch := omega) only [xi_t, xn_k, xn_lt, xn_eq, xn_mul, xn_add, xn_sub, xn_dec, xn_m1, xn_1m, if_pos, if_neg, if_true, if_false, cond_true, cond_false, true_and, and_true, false_and, and_false, xr_cI_s, xr_cV_s, xr_cI_e, xr_cV_e, xm_xs, xs_xs, qm217y hk (by omega) m0', qm151f _ _ e0, Nat.zero_add, e89']
  · refine Or.inr (Or.inl ⟨by omega, qNo_of (nI 0) (by omega) ?_ (fun T hT => ?_)⟩)
    · rw [xe108]; simp (disch := omega) only [xi_t, xn_k, xn_lt, xn_eq, xn_mul, xn_add, xn_sub, xn_dec, xn_m1, xn_1m, if_pos, if_neg, if_true, if_false, cond_true, cond_false, true_and, and_true, false_and, and_false, xr_cI_s, xr_cV_s, xr_cI_e, xr_cV_e, xm_xs, xs_xs, p0, qc140n (by omega) q]
    · rw [xe221]; have e0 : xm (xs T (xw (xm T) 0 69 0 (nI 0))) 0 69 0 = nI 0 := (by rw [xm_xs, xw_y (by omega)]); have f0 : xm (xs T (xw (xm T) 0 69 0 (nI 0))) 0 73 0 = nI np := (by rw [xm_xs, xw_n (by omega), hT, xw_n (by omega)]; exact m0)
      simp (disch := omega) only [xi_t, xn_k, xn_lt, xn_eq, xn_mul, xn_add, xn_sub, xn_dec, xn_m1, xn_1m, if_pos, if_neg, if_true, if_false, cond_true, cond_false, true_and, and_true, false_and, and_false, xr_cI_s, xr_cV_s, xr_cI_e, xr_cV_e, xm_xs, xs_xs, qm217n (by omega) f0 q, qm151t (t := 1) (r := 0) (by omega) (by omega) (by omega) e0]
theorem q_net (I : xIq (xm S) np nq ch st du pl dy dp sz kd gv g h s ln ti fl) (a : Int32) : qRes d 127 232 [xI a] S 1 0 := by
  obtain ⟨P, ⟨Lc, Lm, Lv⟩, ⟨e89, G, W⟩, ⟨Hc, Hm, HI⟩, To⟩ := id I; obtain ⟨⟨p0, p1, p2, p3⟩, ⟨m0, m1, m2, m3⟩, ⟨b0, b1, b2, b3, b4⟩, hp, hd⟩ := id P
  by_cases q : xrl a np
  · obtain ⟨k, hk, rfl⟩ := q
    refine Or.inl ⟨gnet np nq du g (nI k), qOk_of ?_ ?_⟩
    · rw [xe127]; simp (disch := omega) only [xi_t, xn_k, xn_lt, xn_eq, xn_mul, xn_add, xn_sub, xn_dec, xn_m1, xn_1m, if_pos, if_neg, if_true, if_false, cond_true, cond_false, true_and, and_true, false_and, and_false, xr_cI_s, xr_cV_s, xr_cI_e, xr_cV_e, xm_xs, xs_xs, p0, qc140y hk, gc21 (Or.inl rfl) P G]
    · rw [xe232]; obtain ⟨T, hT, e0, I'⟩ := xT_ex I; rw [← hT]; obtain ⟨P', ⟨Lc', Lm', Lv'⟩, ⟨e89', G', W'⟩, ⟨Hc', Hm', HI'⟩, To'⟩ := id I'; obtain ⟨⟨p0', p1', p2', p3'⟩, ⟨m0', m1', m2', m3'⟩, ⟨b0', b1', b2', b3', b4'⟩, hp', hd'⟩ := id P'
      simp (disch := omega) only [xi_t, xn_k, xn_lt, xn_eq, xn_mul, xn_add, xn_sub, xn_dec, xn_m1, xn_1m, if_pos, if_neg, if_true, if_false, cond_true, cond_false, true_and, and_true, false_and, and_false, xr_cI_s, xr_cV_s, xr_cI_e, xr_cV_e, xm_xs, xs_xs, qm217y hk (by omega) m0', qm151f _ _ e0, gm231 P', e89']
  · refine Or.inr (Or.inl ⟨by omega, qNo_of (nI 0) (by omega) ?_ (fun T hT => ?_)⟩)
    · rw [xe127]; simp (disch := omega) only [xi_t, xn_k, xn_lt, xn_eq, xn_mul, xn_add, xn_sub, xn_dec, xn_m1, xn_1m, if_pos, if_neg, if_true, if_false, cond_true, cond_false, true_and, and_true, false_and, and_false, xr_cI_s, xr_cV_s, xr_cI_e, xr_cV_e, xm_xs, xs_xs, p0, qc140n (by omega) q]
    · rw [xe232]; have e0 : xm (xs T (xw (xm T) 0 69 0 (nI 0))) 0 69 0 = nI 0 := (by rw [xm_xs, xw_y (by omega)]); have f0 : xm (xs T (xw (xm T) 0 69 0 (nI 0))) 0 73 0 = nI np := (by rw [xm_xs, xw_n (by omega), hT, xw_n (by omega)]; exact m0)
      simp (disch := omega) only [xi_t, xn_k, xn_lt, xn_eq, xn_mul, xn_add, xn_sub, xn_dec, xn_m1, xn_1m, if_pos, if_neg, if_true, if_false, cond_true, cond_false, true_and, and_true, false_and, and_false, xr_cI_s, xr_cV_s, xr_cI_e, xr_cV_e, xm_xs, xs_xs, qm217n (by omega) f0 q, qm151t (t := 1) (r := 0) (by omega) (by omega) (by omega) e0]
theorem q_owed (I : xIq (xm S) np nq ch st du pl dy dp sz kd gv g h s ln ti fl) (a b : Int32) : qRes d 114 230 [xI a, xI b] S 1 0 := by
  obtain ⟨P, ⟨Lc, Lm, Lv⟩, ⟨e89, G, W⟩, ⟨Hc, Hm, HI⟩, To⟩ := id I; obtain ⟨⟨p0, p1, p2, p3⟩, ⟨m0, m1, m2, m3⟩, ⟨b0, b1, b2, b3, b4⟩, hp, hd⟩ := id P
  by_cases q : xrl a np
  · obtain ⟨k, hk, rfl⟩ := q
    by_cases q2 : xrl b np
    · obtain ⟨j, hj, rfl⟩ := q2
      refine Or.inl ⟨nI (gow nq du g (nI k) (nI j)), qOk_of ?_ ?_⟩
      · rw [xe114]; simp (disch := omega) only [xi_t, xn_k, xn_lt, xn_eq, xn_mul, xn_add, xn_sub, xn_dec, xn_m1, xn_1m, if_pos, if_neg, if_true, if_false, cond_true, cond_false, true_and, and_true, false_and, and_false, xr_cI_s, xr_cV_s, xr_cI_e, xr_cV_e, xm_xs, xs_xs, p0, qc140y hk, qc140y hj, gc20 (Or.inl rfl) P G]
      · rw [xe230]; obtain ⟨T, hT, e0, I'⟩ := xT_ex I; rw [← hT]; obtain ⟨P', ⟨Lc', Lm', Lv'⟩, ⟨e89', G', W'⟩, ⟨Hc', Hm', HI'⟩, To'⟩ := id I'; obtain ⟨⟨p0', p1', p2', p3'⟩, ⟨m0', m1', m2', m3'⟩, ⟨b0', b1', b2', b3', b4'⟩, hp', hd'⟩ := id P'
        simp (disch := omega) only [xi_t, xn_k, xn_lt, xn_eq, xn_mul, xn_add, xn_sub, xn_dec, xn_m1, xn_1m, if_pos, if_neg, if_true, if_false, cond_true, cond_false, true_and, and_true, false_and, and_false, xr_cI_s, xr_cV_s, xr_cI_e, xr_cV_e, xm_xs, xs_xs, qm217y hk (by omega) m0', qm217y hj (by omega) m0', qm151f _ _ e0, gm229 P', e89']
    · refine Or.inr (Or.inl ⟨by omega, qNo_of (nI 0) (by omega) ?_ (fun T hT => ?_)⟩)
      · rw [xe114]; simp (disch := omega) only [xi_t, xn_k, xn_lt, xn_eq, xn_mul, xn_add, xn_sub, xn_dec, xn_m1, xn_1m, if_pos, if_neg, if_true, if_false, cond_true, cond_false, true_and, and_true, false_and, and_false, xr_cI_s, xr_cV_s, xr_cI_e, xr_cV_e, xm_xs, xs_xs, p0, qc140y hk, qc140n (by omega) q2]
      · rw [xe230]; have e0 : xm (xs T (xw (xm T) 0 69 0 (nI 0))) 0 69 0 = nI 0 := (by rw [xm_xs, xw_y (by omega)]); have f0 : xm (xs T (xw (xm T) 0 69 0 (nI 0))) 0 73 0 = nI np := (by rw [xm_xs, xw_n (by omega), hT, xw_n (by omega)]; exact m0)
        simp (disch := omega) only [xi_t, xn_k, xn_lt, xn_eq, xn_mul, xn_add, xn_sub, xn_dec, xn_m1, xn_1m, if_pos, if_neg, if_true, if_false, cond_true, cond_false, true_and, and_true, false_and, and_false, xr_cI_s, xr_cV_s, xr_cI_e, xr_cV_e, xm_xs, xs_xs, qm217y hk (by omega) f0, qm217n (by omega) f0 q2, qm151t (t := 1) (r := 0) (by omega) (by omega) (by omega) e0]
  · refine Or.inr (Or.inl ⟨by omega, qNo_of (nI 0) (by omega) ?_ (fun T hT => ?_)⟩)
    · rw [xe114]; simp (disch := omega) only [xi_t, xn_k, xn_lt, xn_eq, xn_mul, xn_add, xn_sub, xn_dec, xn_m1, xn_1m, if_pos, if_neg, if_true, if_false, cond_true, cond_false, true_and, and_true, false_and, and_false, xr_cI_s, xr_cV_s, xr_cI_e, xr_cV_e, xm_xs, xs_xs, p0, qc140n (by omega) q]
    · rw [xe230]; have e0 : xm (xs T (xw (xm T) 0 69 0 (nI 0))) 0 69 0 = nI 0 := (by rw [xm_xs, xw_y (by omega)]); have f0 : xm (xs T (xw (xm T) 0 69 0 (nI 0))) 0 73 0 = nI np := (by rw [xm_xs, xw_n (by omega), hT, xw_n (by omega)]; exact m0)
      simp (disch := omega) only [xi_t, xn_k, xn_lt, xn_eq, xn_mul, xn_add, xn_sub, xn_dec, xn_m1, xn_1m, if_pos, if_neg, if_true, if_false, cond_true, cond_false, true_and, and_true, false_and, and_false, xr_cI_s, xr_cV_s, xr_cI_e, xr_cV_e, xm_xs, xs_xs, qm217n (by omega) f0 q, qm151t (t := 1) (r := 0) (by omega) (by omega) (by omega) e0]
theorem q_meets (I : xIq (xm S) np nq ch st du pl dy dp sz kd gv g h s ln ti fl) (a : Int32) : qRes d 112 227 [xI a] S 1 0 := by
  obtain ⟨P, ⟨Lc, Lm, Lv⟩, ⟨e89, G, W⟩, ⟨Hc, Hm, HI⟩, To⟩ := id I; obtain ⟨⟨p0, p1, p2, p3⟩, ⟨m0, m1, m2, m3⟩, ⟨b0, b1, b2, b3, b4⟩, hp, hd⟩ := id P
  by_cases q : xrl a nq
  · obtain ⟨k, hk, rfl⟩ := q
    have ob : xr_ok 1 (bI (gap g (2 * k) (2 * k + 1) (pl k) ≤ ch)) = true := by unfold bI; split <;> decide
    refine Or.inl ⟨bI (gap g (2 * k) (2 * k + 1) (pl k) ≤ ch), qOk_of ?_ ?_⟩
    · rw [xe112]; simp (disch := omega) only [xi_t, xn_k, xn_lt, xn_eq, xn_mul, xn_add, xn_sub, xn_dec, xn_m1, xn_1m, if_pos, if_neg, if_true, if_false, cond_true, cond_false, true_and, and_true, false_and, and_false, xr_cI_s, xr_cV_s, xr_cI_e, xr_cV_e, xm_xs, xs_xs, p1, qc140y hk, gc14 (Or.inl rfl) P G W hk, ob]
    · rw [xe227]; obtain ⟨T, hT, e0, I'⟩ := xT_ex I; rw [← hT]; obtain ⟨P', ⟨Lc', Lm', Lv'⟩, ⟨e89', G', W'⟩, ⟨Hc', Hm', HI'⟩, To'⟩ := id I'; obtain ⟨⟨p0', p1', p2', p3'⟩, ⟨m0', m1', m2', m3'⟩, ⟨b0', b1', b2', b3', b4'⟩, hp', hd'⟩ := id P'
      have e5 := gm205 (d := d + 55) (w := [35, 44, 53, 58, 63, 66]) (Or.inl rfl) P' (by rw [e89']; exact W) hk
      rw [e89'] at e5
      simp (disch := omega) only [xi_t, xn_k, xn_lt, xn_eq, xn_mul, xn_add, xn_sub, xn_dec, xn_m1, xn_1m, if_pos, if_neg, if_true, if_false, cond_true, cond_false, true_and, and_true, false_and, and_false, xr_cI_s, xr_cV_s, xr_cI_e, xr_cV_e, xm_xs, xs_xs, qm218y hk (by omega) m1', qm151f _ _ e0, e5, ob]
  · refine Or.inr (Or.inl ⟨by omega, qNo_of (nI 0) (by omega) ?_ (fun T hT => ?_)⟩)
    · rw [xe112]; simp (disch := omega) only [xi_t, xn_k, xn_lt, xn_eq, xn_mul, xn_add, xn_sub, xn_dec, xn_m1, xn_1m, if_pos, if_neg, if_true, if_false, cond_true, cond_false, true_and, and_true, false_and, and_false, xr_cI_s, xr_cV_s, xr_cI_e, xr_cV_e, xm_xs, xs_xs, p1, qc140n (by omega) q]
    · rw [xe227]; have e0 : xm (xs T (xw (xm T) 0 69 0 (nI 0))) 0 69 0 = nI 0 := (by rw [xm_xs, xw_y (by omega)]); have f1 : xm (xs T (xw (xm T) 0 69 0 (nI 0))) 0 73 1 = nI nq := (by rw [xm_xs, xw_n (by omega), hT, xw_n (by omega)]; exact m1)
      simp (disch := omega) only [xi_t, xn_k, xn_lt, xn_eq, xn_mul, xn_add, xn_sub, xn_dec, xn_m1, xn_1m, if_pos, if_neg, if_true, if_false, cond_true, cond_false, true_and, and_true, false_and, and_false, xr_cI_s, xr_cV_s, xr_cI_e, xr_cV_e, xm_xs, xs_xs, qm218n (by omega) f1 q, qm151t (t := 1) (r := 0) (by omega) (by omega) (by omega) e0]
theorem q_height (I : xIq (xm S) np nq ch st du pl dy dp sz kd gv g h s ln ti fl) (a : Int32) : qRes d 115 238 [xI a] S 0 1 := by
  obtain ⟨P, ⟨Lc, Lm, Lv⟩, ⟨e89, G, W⟩, ⟨Hc, Hm, HI⟩, To⟩ := id I; obtain ⟨⟨p0, p1, p2, p3⟩, ⟨m0, m1, m2, m3⟩, ⟨b0, b1, b2, b3, b4⟩, hp, hd⟩ := id P
  by_cases q : xrg a 0 7
  · obtain ⟨k, _, hk, rfl⟩ := q
    refine Or.inl ⟨nI (h k), qOk_of ?_ ?_⟩
    · rw [xe115]; simp (disch := omega) only [xi_t, xn_k, xn_lt, xn_eq, xn_mul, xn_add, xn_sub, xn_dec, xn_m1, xn_1m, if_pos, if_neg, if_true, if_false, cond_true, cond_false, true_and, and_true, false_and, and_false, xr_cI_s, xr_cV_s, xr_cI_e, xr_cV_e, xm_xs, xs_xs, qc141y (Nat.zero_le k) hk, Hc.1 k (by omega)]
    · rw [xe238]; obtain ⟨T, hT, e0, I'⟩ := xT_ex I; rw [← hT]; obtain ⟨P', ⟨Lc', Lm', Lv'⟩, ⟨e89', G', W'⟩, ⟨Hc', Hm', HI'⟩, To'⟩ := id I'; obtain ⟨⟨p0', p1', p2', p3'⟩, ⟨m0', m1', m2', m3'⟩, ⟨b0', b1', b2', b3', b4'⟩, hp', hd'⟩ := id P'
      have e2 := hm192 (d := d + 58) (w := [35, 44, 53, 58, 63, 66]) (S := T) (Or.inl rfl) (by rw [e89']; exact Hm) (x := k) (by omega)
      simp (disch := omega) only [xi_t, xn_k, xn_lt, xn_eq, xn_mul, xn_add, xn_sub, xn_dec, xn_m1, xn_1m, if_pos, if_neg, if_true, if_false, cond_true, cond_false, true_and, and_true, false_and, and_false, xr_cI_s, xr_cV_s, xr_cI_e, xr_cV_e, xm_xs, xs_xs, qm220y hk, qm151f _ _ e0, e2]
  · refine Or.inr (Or.inr ⟨by omega, qNo_of (nI 0) (by omega) ?_ (fun T hT => ?_)⟩)
    · rw [xe115]; simp (disch := omega) only [xi_t, xn_k, xn_lt, xn_eq, xn_mul, xn_add, xn_sub, xn_dec, xn_m1, xn_1m, if_pos, if_neg, if_true, if_false, cond_true, cond_false, true_and, and_true, false_and, and_false, xr_cI_s, xr_cV_s, xr_cI_e, xr_cV_e, xm_xs, xs_xs, qc141n (by omega) (by omega) q]
    · rw [xe238]; have e0 : xm (xs T (xw (xm T) 0 69 0 (nI 0))) 0 69 0 = nI 0 := (by rw [xm_xs, xw_y (by omega)])
      simp (disch := omega) only [xi_t, xn_k, xn_lt, xn_eq, xn_mul, xn_add, xn_sub, xn_dec, xn_m1, xn_1m, if_pos, if_neg, if_true, if_false, cond_true, cond_false, true_and, and_true, false_and, and_false, xr_cI_s, xr_cV_s, xr_cI_e, xr_cV_e, xm_xs, xs_xs, qm220n q, qm151t (t := 1) (r := 1) (by omega) (by omega) (by omega) e0]
theorem q_shard (I : xIq (xm S) np nq ch st du pl dy dp sz kd gv g h s ln ti fl) (a b : Int32) : qRes d 116 239 [xI a, xI b] S 0 1 := by
  obtain ⟨P, ⟨Lc, Lm, Lv⟩, ⟨e89, G, W⟩, ⟨Hc, Hm, HI⟩, To⟩ := id I; obtain ⟨⟨p0, p1, p2, p3⟩, ⟨m0, m1, m2, m3⟩, ⟨b0, b1, b2, b3, b4⟩, hp, hd⟩ := id P
  have B := hG_B (hI_G HI)
  by_cases q : xrg a 0 7
  · obtain ⟨k, _, hk, rfl⟩ := q
    by_cases q2 : xrg b 0 2147483647
    · obtain ⟨j, _, hj, rfl⟩ := q2
      have bk := B k (by omega)
      refine Or.inl ⟨if j < h k then s k j else -1, qOk_of ?_ ?_⟩
      · rw [xe116]; simp (disch := omega) only [xi_t, xn_k, xn_lt, xn_eq, xn_mul, xn_add, xn_sub, xn_dec, xn_m1, xn_1m, if_pos, if_neg, if_true, if_false, cond_true, cond_false, true_and, and_true, false_and, and_false, xr_cI_s, xr_cV_s, xr_cI_e, xr_cV_e, xm_xs, xs_xs, qc141y (Nat.zero_le k) hk, qc141y (Nat.zero_le j) hj, hc31 (Or.inl rfl) Hc (xhB_le (by omega) B)]
      · rw [xe239]; obtain ⟨T, hT, e0, I'⟩ := xT_ex I; rw [← hT]; obtain ⟨P', ⟨Lc', Lm', Lv'⟩, ⟨e89', G', W'⟩, ⟨Hc', Hm', HI'⟩, To'⟩ := id I'; obtain ⟨⟨p0', p1', p2', p3'⟩, ⟨m0', m1', m2', m3'⟩, ⟨b0', b1', b2', b3', b4'⟩, hp', hd'⟩ := id P'
        have e2 := hm192 (d := d + 58) (w := [35, 44, 53, 58, 63, 66]) (S := T) (Or.inl rfl) (by rw [e89']; exact Hm) (x := k) (by omega)
        by_cases q3 : j < h k
        · have e3 := Hm.2 k j (by omega) q3
          simp (disch := omega) only [xi_t, xn_k, xn_lt, xn_eq, xn_mul, xn_add, xn_sub, xn_dec, xn_m1, xn_1m, if_pos, if_neg, if_true, if_false, cond_true, cond_false, true_and, and_true, false_and, and_false, xr_cI_s, xr_cV_s, xr_cI_e, xr_cV_e, xm_xs, xs_xs, qm220y hk, qm151f _ _ e0, e2, e89', e3]
        · simp (disch := omega) only [xi_t, xn_k, xn_lt, xn_eq, xn_mul, xn_add, xn_sub, xn_dec, xn_m1, xn_1m, if_pos, if_neg, if_true, if_false, cond_true, cond_false, true_and, and_true, false_and, and_false, xr_cI_s, xr_cV_s, xr_cI_e, xr_cV_e, xm_xs, xs_xs, qm220y hk, qm151f _ _ e0, e2]
    · refine Or.inr (Or.inr ⟨by omega, qNo_of (nI 0) (by omega) ?_ (fun T hT => ?_)⟩)
      · rw [xe116]; simp (disch := omega) only [xi_t, xn_k, xn_lt, xn_eq, xn_mul, xn_add, xn_sub, xn_dec, xn_m1, xn_1m, if_pos, if_neg, if_true, if_false, cond_true, cond_false, true_and, and_true, false_and, and_false, xr_cI_s, xr_cV_s, xr_cI_e, xr_cV_e, xm_xs, xs_xs, qc141y (Nat.zero_le k) hk, qc141n (by omega) (by omega) q2]
      · rw [xe239]; have e0 : xm (xs T (xw (xm T) 0 69 0 (nI 0))) 0 69 0 = nI 0 := (by rw [xm_xs, xw_y (by omega)])
        have q3 : b < nI 0 := by
          rcases xrg_no (by omega) (by omega) q2 with q3 | ⟨q3, q4⟩
          · exact q3
          · exfalso
            rw [Int32.lt_iff_toInt_lt, nI_toInt (by omega)] at q4
            have := b.toInt_lt
            omega
        simp (disch := omega) only [xi_t, xn_k, xn_lt, xn_eq, xn_mul, xn_add, xn_sub, xn_dec, xn_m1, xn_1m, if_pos, if_neg, if_true, if_false, cond_true, cond_false, true_and, and_true, false_and, and_false, xr_cI_s, xr_cV_s, xr_cI_e, xr_cV_e, xm_xs, xs_xs, qm220y hk, q3, if_true, qm151t (t := 1) (r := 1) (by omega) (by omega) (by omega) e0]
  · refine Or.inr (Or.inr ⟨by omega, qNo_of (nI 0) (by omega) ?_ (fun T hT => ?_)⟩)
    · rw [xe116]; simp (disch := omega) only [xi_t, xn_k, xn_lt, xn_eq, xn_mul, xn_add, xn_sub, xn_dec, xn_m1, xn_1m, if_pos, if_neg, if_true, if_false, cond_true, cond_false, true_and, and_true, false_and, and_false, xr_cI_s, xr_cV_s, xr_cI_e, xr_cV_e, xm_xs, xs_xs, qc141n (by omega) (by omega) q]
    · rw [xe239]; have e0 : xm (xs T (xw (xm T) 0 69 0 (nI 0))) 0 69 0 = nI 0 := (by rw [xm_xs, xw_y (by omega)])
      simp (disch := omega) only [xi_t, xn_k, xn_lt, xn_eq, xn_mul, xn_add, xn_sub, xn_dec, xn_m1, xn_1m, if_pos, if_neg, if_true, if_false, cond_true, cond_false, true_and, and_true, false_and, and_false, xr_cI_s, xr_cV_s, xr_cI_e, xr_cV_e, xm_xs, xs_xs, qm220n q, qm151t (t := 1) (r := 1) (by omega) (by omega) (by omega) e0]
theorem q_fault (h1 : xm S 0 0 15 = xm S 0 69 3) : qRes d 105 191 [] S 0 0 := by
  refine Or.inl ⟨xm S 0 0 15, qOk_of ?_ ?_⟩
  · rw [xe105]
  · rw [xe191, xw_n (by omega), h1]
theorem q_status (h1 : xm S 0 0 17 = xm S 0 71 0) (h2 : xm S 0 0 18 = xm S 0 71 1) (a : Int32) : qRes d 138 269 [xI a] S 0 0 := by
  by_cases q : xrg a 0 1
  · obtain ⟨k, _, hk, rfl⟩ := q
    rcases (by omega : k = 0 ∨ k = 1) with rfl | rfl
    · refine Or.inl ⟨xm S 0 0 17, qOk_of ?_ ?_⟩
      · rw [xe138]; simp (disch := omega) only [xi_t, xn_k, xn_lt, xn_eq, xn_mul, xn_add, xn_sub, xn_dec, xn_m1, xn_1m, if_pos, if_neg, if_true, if_false, cond_true, cond_false, true_and, and_true, false_and, and_false, xr_cI_s, xr_cV_s, xr_cI_e, xr_cV_e, xm_xs, xs_xs]
      · rw [xe269]; simp (disch := omega) only [xi_t, xn_k, xn_lt, xn_eq, xn_mul, xn_add, xn_sub, xn_dec, xn_m1, xn_1m, if_pos, if_neg, if_true, if_false, cond_true, cond_false, true_and, and_true, false_and, and_false, xr_cI_s, xr_cV_s, xr_cI_e, xr_cV_e, xm_xs, xs_xs, qm152y (Nat.zero_le 0) hk, xw_y, xw_n, h1]
    · refine Or.inl ⟨xm S 0 0 18, qOk_of ?_ ?_⟩
      · rw [xe138]; simp (disch := omega) only [xi_t, xn_k, xn_lt, xn_eq, xn_mul, xn_add, xn_sub, xn_dec, xn_m1, xn_1m, if_pos, if_neg, if_true, if_false, cond_true, cond_false, true_and, and_true, false_and, and_false, xr_cI_s, xr_cV_s, xr_cI_e, xr_cV_e, xm_xs, xs_xs]
      · rw [xe269]; simp (disch := omega) only [xi_t, xn_k, xn_lt, xn_eq, xn_mul, xn_add, xn_sub, xn_dec, xn_m1, xn_1m, if_pos, if_neg, if_true, if_false, cond_true, cond_false, true_and, and_true, false_and, and_false, xr_cI_s, xr_cV_s, xr_cI_e, xr_cV_e, xm_xs, xs_xs, qm152y (Nat.zero_le 1) hk, xw_y, xw_n, h2]
  · refine Or.inl ⟨-1, qOk_of ?_ ?_⟩
    · have q0 : ¬ a = nI 0 := fun e => q ⟨0, by omega, by omega, e⟩
      have q1 : ¬ a = nI 1 := fun e => q ⟨1, by omega, by omega, e⟩
      rw [xe138, if_neg q0, if_neg q1]
    · rw [xe269]; simp (disch := omega) only [xi_t, xn_k, xn_lt, xn_eq, xn_mul, xn_add, xn_sub, xn_dec, xn_m1, xn_1m, if_pos, if_neg, if_true, if_false, cond_true, cond_false, true_and, and_true, false_and, and_false, xr_cI_s, xr_cV_s, xr_cI_e, xr_cV_e, xm_xs, xs_xs, qm152n (by omega) (by omega) q]
end
