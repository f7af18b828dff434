/-! QUESTIONS, 2 -/
theorem xrl_rg {a : Int32} {n : Nat} (h : ¬ xrl a (n + 1)) : ¬ xrg a 0 n := fun ⟨k, _, h2, e⟩ => h ⟨k, by omega, e⟩
theorem xn_ltz {a b : Nat} (ha : a < 100000000) (hb : b < 100000000) : (nI a - nI b < nI 0) = (a < b) := by
  apply propext
  have e : nI a - nI b = Int32.ofInt ((a : Int) - (b : Int)) := by
    rw [Int32.ofInt_sub, Int32.ofInt_eq_ofNat, Int32.ofInt_eq_ofNat]; rfl
  rw [e, Int32.lt_iff_toInt_lt, nI_toInt (by omega), Int32.toInt_ofInt_of_le (by omega) (by omega)]
  omega
theorem xfo_fst {α β : Type} {f : Nat → α × β → α × β} {g : Nat → α → α} : ∀ (n : Nat) (a : α × β), (∀ k b, k < n → (f k b).1 = g k b.1) → (xfo f n a).1 = xfo g n a.1
  | 0, _, _ => rfl
  | n + 1, a, h => by rw [xfo, h n _ (by omega), xfo_fst n a (fun k b hk => h k b (by omega)), xfo]
theorem xn_or0 (a : Int32) : a ||| nI 0 = a := by rw [nI_0, Int32.or_zero]
section
variable {d : Nat} {S : xr_S} {np nq ch st : Nat} {du pl : Nat → Nat} {dy : Nat → Int32} {dp : Nat → Nat → Nat} {sz : Nat} {kd : Nat → Nat} {gv g : Nat → Int32} {h : Nat → Nat} {s : Nat → Nat → Int32} {ln : Nat} {ti : Nat → Nat} {fl : Nat → Option Nat}
theorem q_told (I : xIq (xm S) np nq ch st du pl dy dp sz kd gv g h s ln ti fl) (hr : xm S 0 0 16 = xm S 0 69 37) (a : Int32) : qRes d 107 216 [xI a] S 0 1 := by
  obtain ⟨P, ⟨Lc, Lm, Lv⟩, ⟨e89, G, W⟩, ⟨Hc, Hm, HI⟩, To⟩ := id I; obtain ⟨⟨p0, p1, p2, p3⟩, ⟨m0, m1, m2, m3⟩, ⟨b0, b1, b2, b3, b4⟩, hp, hd⟩ := id P
  by_cases q : xrg a 0 9
  · obtain ⟨k, _, hk, rfl⟩ := q
    have c0 : ∀ r, xr_Run (d + 59) 107 9 [xP 0 0, xI (nI k)] [xI (nI k)] xMd S = some (.inl (some r), xMd, S) → xr_Call (d + 60) 107 [xP 0 0, xI (nI k)] xMd S = some (.inl (some r), xMd, S) := fun r e => by
      rw [xe107]; simp (disch := omega) only [xi_t, xn_k, xn_lt, xn_eq, xn_mul, xn_add, xn_sub, xn_dec, xn_m1, xn_1m, if_pos, if_neg, if_true, if_false, cond_true, cond_false, true_and, and_true, false_and, and_false, xr_cI_s, xr_cV_s, xr_cI_e, xr_cV_e, xm_xs, xs_xs, qc141y (Nat.zero_le k) hk]; exact e
    have m0 : ∀ r, (∀ T, T = xs S (xw (xm S) 0 69 0 (nI 0)) → xIq (xm T) np nq ch st du pl dy dp sz kd gv g h s ln ti fl → xr_Run (d + 59) 216 32 [xP 0 69, xI (nI k), xU, xU] [xI (nI k)] xMd T = some (.inl (some r), xMd, T)) → xr_Call (d + 60) 216 [xP 0 69, xI (nI k)] xMd S = some (.inl (some r), xMd, xs S (xw (xm S) 0 69 0 (nI 0))) := fun r e => by
      rw [xe216]; obtain ⟨T, hT, e0, I'⟩ := xT_ex I; rw [← hT]; obtain ⟨P', ⟨Lc', Lm', Lv'⟩, ⟨e89', G', W'⟩, ⟨Hc', Hm', HI'⟩, To'⟩ := id I'; obtain ⟨⟨p0', p1', p2', p3'⟩, ⟨m0', m1', m2', m3'⟩, ⟨b0', b1', b2', b3', b4'⟩, hp', hd'⟩ := id P'
      simp (disch := omega) only [xi_t, xn_k, xn_lt, xn_eq, xn_mul, xn_add, xn_sub, xn_dec, xn_m1, xn_1m, if_pos, if_neg, if_true, if_false, cond_true, cond_false, true_and, and_true, false_and, and_false, xr_cI_s, xr_cV_s, xr_cI_e, xr_cV_e, xm_xs, xs_xs, qm152y (Nat.zero_le k) hk, qm151f _ _ e0]
      exact e T hT I'
    rcases (by omega : k = 0 ∨ k = 1 ∨ k = 2 ∨ k = 3 ∨ k = 4 ∨ k = 5 ∨ k = 6 ∨ k = 7 ∨ k = 8 ∨ k = 9) with rfl | rfl | rfl | rfl | rfl | rfl | rfl | rfl | rfl | rfl
    · refine Or.inl ⟨nI np, qOk_of (c0 _ ?_) (m0 _ (fun T hT I' => ?_))⟩
      · rw [xg107_9_0, p0]
      · rw [xg216_32_0]; simp (disch := omega) only [xi_t, xn_k, xn_lt, xn_eq, xn_mul, xn_add, xn_sub, xn_dec, xn_m1, xn_1m, if_pos, if_neg, if_true, if_false, cond_true, cond_false, true_and, and_true, false_and, and_false, xr_cI_s, xr_cV_s, xr_cI_e, xr_cV_e, xm_xs, xs_xs, I'.1.2.1.1]
    · refine Or.inl ⟨nI nq, qOk_of (c0 _ ?_) (m0 _ (fun T hT I' => ?_))⟩
      · rw [xg107_9_1, p1]
      · rw [xg216_32_1]; simp (disch := omega) only [xi_t, xn_k, xn_lt, xn_eq, xn_mul, xn_add, xn_sub, xn_dec, xn_m1, xn_1m, if_pos, if_neg, if_true, if_false, cond_true, cond_false, true_and, and_true, false_and, and_false, xr_cI_s, xr_cV_s, xr_cI_e, xr_cV_e, xm_xs, xs_xs, I'.1.2.1.2.1]
    · refine Or.inl ⟨g 144, qOk_of (c0 _ ?_) (m0 _ (fun T hT I' => ?_))⟩
      · rw [xg107_9_2, G.1]
      · rw [xg216_32_2]; simp (disch := omega) only [xi_t, xn_k, xn_lt, xn_eq, xn_mul, xn_add, xn_sub, xn_dec, xn_m1, xn_1m, if_pos, if_neg, if_true, if_false, cond_true, cond_false, true_and, and_true, false_and, and_false, xr_cI_s, xr_cV_s, xr_cI_e, xr_cV_e, xm_xs, xs_xs, I'.2.2.1.1]
    · refine Or.inl ⟨nI (xsN (fun k => if g (8 + k) = nI 0 then 1 else 0) nq), qOk_of (c0 _ ?_) (m0 _ (fun T hT I' => ?_))⟩
      · rw [xg107_9_3, gc17 (Or.inl rfl) P G, xr_cI_s]
      · rw [xg216_32_3]; simp (disch := omega) only [xi_t, xn_k, xn_lt, xn_eq, xn_mul, xn_add, xn_sub, xn_dec, xn_m1, xn_1m, if_pos, if_neg, if_true, if_false, cond_true, cond_false, true_and, and_true, false_and, and_false, xr_cI_s, xr_cV_s, xr_cI_e, xr_cV_e, xm_xs, xs_xs, gm215 (Or.inl rfl) I'.1, I'.2.2.1.1]
    · refine Or.inl ⟨nI (xsN (fun k => if g (8 + k) = nI 1 then 1 else 0) nq), qOk_of (c0 _ ?_) (m0 _ (fun T hT I' => ?_))⟩
      · rw [xg107_9_4, gc17 (Or.inl rfl) P G, xr_cI_s]
      · rw [xg216_32_4]; simp (disch := omega) only [xi_t, xn_k, xn_lt, xn_eq, xn_mul, xn_add, xn_sub, xn_dec, xn_m1, xn_1m, if_pos, if_neg, if_true, if_false, cond_true, cond_false, true_and, and_true, false_and, and_false, xr_cI_s, xr_cV_s, xr_cI_e, xr_cV_e, xm_xs, xs_xs, gm215 (Or.inl rfl) I'.1, I'.2.2.1.1]
    · refine Or.inl ⟨nI (xsN (fun k => if g (8 + k) = nI 2 then 1 else 0) nq), qOk_of (c0 _ ?_) (m0 _ (fun T hT I' => ?_))⟩
      · rw [xg107_9_5, gc17 (Or.inl rfl) P G, xr_cI_s]
      · rw [xg216_32_5]; simp (disch := omega) only [xi_t, xn_k, xn_lt, xn_eq, xn_mul, xn_add, xn_sub, xn_dec, xn_m1, xn_1m, if_pos, if_neg, if_true, if_false, cond_true, cond_false, true_and, and_true, false_and, and_false, xr_cI_s, xr_cV_s, xr_cI_e, xr_cV_e, xm_xs, xs_xs, gm215 (Or.inl rfl) I'.1, I'.2.2.1.1]
    · refine Or.inl ⟨nI (xsN (fun k => if g (8 + k) = nI 0 ∧ dy k < g 144 then 1 else 0) nq), qOk_of (c0 _ ?_) (m0 _ (fun T hT I' => ?_))⟩
      · rw [xg107_9_6, gc18 (Or.inl rfl) P G, xr_cI_s]
      · rw [xg216_32_6]
        have m1 := I'.1.2.1.2.1
        refine (xl_up (T := fun k => xr_Run (d + 59) 216 116 [xP 0 69, xI (nI 6), xI (nI (xsN (fun k => if g (8 + k) = nI 0 ∧ dy k < g 144 then 1 else 0) k)), xI (nI k)] [] xMd T) (n := nq) (fun k hk => ?_)).trans ?_
        · refine (xg216_116 _ _ _ _ _ _).trans ?_
          rw [gm208 (c := 89) (Or.inl rfl) I'.1 hk, I'.2.2.1.1]
          unfold bI
          by_cases q : g (8 + k) = nI 0 ∧ dy k < g 144 <;> simp (disch := omega) only [xi_t, xn_k, xn_lt, xn_eq, xn_mul, xn_add, xn_sub, xn_dec, xn_m1, xn_1m, if_pos, if_neg, if_true, if_false, cond_true, cond_false, true_and, and_true, false_and, and_false, xr_cI_s, xr_cV_s, xr_cI_e, xr_cV_e, xm_xs, xs_xs, m1, xsN, q, if_true, if_false, Nat.add_zero]
        · refine (xg216_116 _ _ _ _ _ _).trans ?_
          simp (disch := omega) only [xi_t, xn_k, xn_lt, xn_eq, xn_mul, xn_add, xn_sub, xn_dec, xn_m1, xn_1m, if_pos, if_neg, if_true, if_false, cond_true, cond_false, true_and, and_true, false_and, and_false, xr_cI_s, xr_cV_s, xr_cI_e, xr_cV_e, xm_xs, xs_xs, m1]
    · refine Or.inl ⟨nI (xsN h 8), qOk_of (c0 _ ?_) (m0 _ (fun T hT I' => ?_))⟩
      · rw [xg107_9_7, hc36 (Or.inl rfl) Hc, xr_cI_s]
      · rw [xg216_32_7, hm200 (h := h) (s := s) (Or.inl rfl) (by rw [I'.2.2.1.1]; exact Hm), xr_cI_s]
    · refine Or.inl ⟨nI ln, qOk_of (c0 _ ?_) (m0 _ (fun T hT I' => ?_))⟩
      · rw [xg107_9_8, To.1.1]
      · rw [xg216_32_8, I'.2.2.2.2.1.2.1]
    · refine Or.inl ⟨xm S 0 0 16, qOk_of (c0 _ ?_) (m0 _ (fun T hT I' => ?_))⟩
      · rw [xg107_9_9]
      · rw [xg216_32_9, hr, hT, xm_xs, xw_n (by omega)]
  · refine Or.inr (Or.inr ⟨by omega, qNo_of (nI 0) (by omega) ?_ (fun T hT => ?_)⟩)
    · rw [xe107]; simp (disch := omega) only [xi_t, xn_k, xn_lt, xn_eq, xn_mul, xn_add, xn_sub, xn_dec, xn_m1, xn_1m, if_pos, if_neg, if_true, if_false, cond_true, cond_false, true_and, and_true, false_and, and_false, xr_cI_s, xr_cV_s, xr_cI_e, xr_cV_e, xm_xs, xs_xs, qc141n (by omega) (by omega) q]
    · rw [xe216]; have e0 : xm (xs T (xw (xm T) 0 69 0 (nI 0))) 0 69 0 = nI 0 := (by rw [xm_xs, xw_y (by omega)])
      simp (disch := omega) only [xi_t, xn_k, xn_lt, xn_eq, xn_mul, xn_add, xn_sub, xn_dec, xn_m1, xn_1m, if_pos, if_neg, if_true, if_false, cond_true, cond_false, true_and, and_true, false_and, and_false, xr_cI_s, xr_cV_s, xr_cI_e, xr_cV_e, xm_xs, xs_xs, qm152n (by omega) (by omega) q, qm151t (t := 1) (r := 1) (by omega) (by omega) (by omega) e0]
theorem q_pot (I : xIq (xm S) np nq ch st du pl dy dp sz kd gv g h s ln ti fl) (a b : Int32) : qRes d 109 222 [xI a, xI b] S 1 2 := by
  obtain ⟨P, ⟨Lc, Lm, Lv⟩, ⟨e89, G, W⟩, ⟨Hc, Hm, HI⟩, To⟩ := id I; obtain ⟨⟨p0, p1, p2, p3⟩, ⟨m0, m1, m2, m3⟩, ⟨b0, b1, b2, b3, b4⟩, hp, hd⟩ := id P
  have B := hG_B (hI_G HI)
  by_cases q : xrl a nq
  · obtain ⟨p, hpq, rfl⟩ := q
    by_cases q2 : xrg b 0 7
    · obtain ⟨k, _, hk, rfl⟩ := q2
      have c0 : ∀ r, xr_Run (d + 59) 109 21 [xP 0 0, xI (nI p), xI (nI k)] [xI (nI k)] xMd S = some (.inl (some r), xMd, S) → xr_Call (d + 60) 109 [xP 0 0, xI (nI p), xI (nI k)] xMd S = some (.inl (some r), xMd, S) := fun r e => by
        rw [xe109]; simp (disch := omega) only [xi_t, xn_k, xn_lt, xn_eq, xn_mul, xn_add, xn_sub, xn_dec, xn_m1, xn_1m, if_pos, if_neg, if_true, if_false, cond_true, cond_false, true_and, and_true, false_and, and_false, xr_cI_s, xr_cV_s, xr_cI_e, xr_cV_e, xm_xs, xs_xs, p1, qc140y hpq, qc141y (Nat.zero_le k) hk]; exact e
      have m0 : ∀ r, (∀ T, xIq (xm T) np nq ch st du pl dy dp sz kd gv g h s ln ti fl → xr_Run (d + 59) 222 54 [xP 0 69, xI (nI p), xI (nI k)] [xI (nI k)] xMd T = some (.inl (some r), xMd, T)) → xr_Call (d + 60) 222 [xP 0 69, xI (nI p), xI (nI k)] xMd S = some (.inl (some r), xMd, xs S (xw (xm S) 0 69 0 (nI 0))) := fun r e => by
        rw [xe222]; obtain ⟨T, hT, e0, I'⟩ := xT_ex I; rw [← hT]; obtain ⟨P', ⟨Lc', Lm', Lv'⟩, ⟨e89', G', W'⟩, ⟨Hc', Hm', HI'⟩, To'⟩ := id I'; obtain ⟨⟨p0', p1', p2', p3'⟩, ⟨m0', m1', m2', m3'⟩, ⟨b0', b1', b2', b3', b4'⟩, hp', hd'⟩ := id P'
        simp (disch := omega) only [xi_t, xn_k, xn_lt, xn_eq, xn_mul, xn_add, xn_sub, xn_dec, xn_m1, xn_1m, if_pos, if_neg, if_true, if_false, cond_true, cond_false, true_and, and_true, false_and, and_false, xr_cI_s, xr_cV_s, xr_cI_e, xr_cV_e, xm_xs, xs_xs, qm218y hpq (by omega) m1', qm152y (Nat.zero_le k) hk, qm151f _ _ e0]
        exact e T I'
      obtain ⟨c39, c40, c41, d2, d3, d4, l1, l2, l3⟩ := hp p hpq
      rcases (by omega : k = 0 ∨ k = 1 ∨ k = 2 ∨ k = 3 ∨ k = 4 ∨ k = 5 ∨ k = 6 ∨ k = 7) with rfl | rfl | rfl | rfl | rfl | rfl | rfl | rfl
      · refine Or.inl ⟨nI (du p), qOk_of (c0 _ ?_) (m0 _ (fun T I' => ?_))⟩
        · rw [xg109_21_0]; simp (disch := omega) only [xi_t, xn_k, xn_lt, xn_eq, xn_mul, xn_add, xn_sub, xn_dec, xn_m1, xn_1m, if_pos, if_neg, if_true, if_false, cond_true, cond_false, true_and, and_true, false_and, and_false, xr_cI_s, xr_cV_s, xr_cI_e, xr_cV_e, xm_xs, xs_xs, c39]
        · rw [xg222_54_0]; simp (disch := omega) only [xi_t, xn_k, xn_lt, xn_eq, xn_mul, xn_add, xn_sub, xn_dec, xn_m1, xn_1m, if_pos, if_neg, if_true, if_false, cond_true, cond_false, true_and, and_true, false_and, and_false, xr_cI_s, xr_cV_s, xr_cI_e, xr_cV_e, xm_xs, xs_xs, (I'.1.2.2.2.1 p hpq).2.2.2.1]
      · refine Or.inl ⟨dy p, qOk_of (c0 _ ?_) (m0 _ (fun T I' => ?_))⟩
        · rw [xg109_21_1]; simp (disch := omega) only [xi_t, xn_k, xn_lt, xn_eq, xn_mul, xn_add, xn_sub, xn_dec, xn_m1, xn_1m, if_pos, if_neg, if_true, if_false, cond_true, cond_false, true_and, and_true, false_and, and_false, xr_cI_s, xr_cV_s, xr_cI_e, xr_cV_e, xm_xs, xs_xs, c40]
        · rw [xg222_54_1]; simp (disch := omega) only [xi_t, xn_k, xn_lt, xn_eq, xn_mul, xn_add, xn_sub, xn_dec, xn_m1, xn_1m, if_pos, if_neg, if_true, if_false, cond_true, cond_false, true_and, and_true, false_and, and_false, xr_cI_s, xr_cV_s, xr_cI_e, xr_cV_e, xm_xs, xs_xs, (I'.1.2.2.2.1 p hpq).2.2.2.2.1]
      · refine Or.inl ⟨nI (pl p), qOk_of (c0 _ ?_) (m0 _ (fun T I' => ?_))⟩
        · rw [xg109_21_2]; simp (disch := omega) only [xi_t, xn_k, xn_lt, xn_eq, xn_mul, xn_add, xn_sub, xn_dec, xn_m1, xn_1m, if_pos, if_neg, if_true, if_false, cond_true, cond_false, true_and, and_true, false_and, and_false, xr_cI_s, xr_cV_s, xr_cI_e, xr_cV_e, xm_xs, xs_xs, c41]
        · rw [xg222_54_2]; simp (disch := omega) only [xi_t, xn_k, xn_lt, xn_eq, xn_mul, xn_add, xn_sub, xn_dec, xn_m1, xn_1m, if_pos, if_neg, if_true, if_false, cond_true, cond_false, true_and, and_true, false_and, and_false, xr_cI_s, xr_cV_s, xr_cI_e, xr_cV_e, xm_xs, xs_xs, (I'.1.2.2.2.1 p hpq).2.2.2.2.2.1]
      · refine Or.inl ⟨g (8 + p), qOk_of (c0 _ ?_) (m0 _ (fun T I' => ?_))⟩
        · rw [xg109_21_3]; simp (disch := omega) only [xi_t, xn_k, xn_lt, xn_eq, xn_mul, xn_add, xn_sub, xn_dec, xn_m1, xn_1m, if_pos, if_neg, if_true, if_false, cond_true, cond_false, true_and, and_true, false_and, and_false, xr_cI_s, xr_cV_s, xr_cI_e, xr_cV_e, xm_xs, xs_xs, G.2.2.1 p hpq]
        · rw [xg222_54_3]; simp (disch := omega) only [xi_t, xn_k, xn_lt, xn_eq, xn_mul, xn_add, xn_sub, xn_dec, xn_m1, xn_1m, if_pos, if_neg, if_true, if_false, cond_true, cond_false, true_and, and_true, false_and, and_false, xr_cI_s, xr_cV_s, xr_cI_e, xr_cV_e, xm_xs, xs_xs, I'.2.2.1.1]
      · refine Or.inl ⟨g (16 + 2 * p), qOk_of (c0 _ ?_) (m0 _ (fun T I' => ?_))⟩
        · rw [xg109_21_4]; simp (disch := omega) only [xi_t, xn_k, xn_lt, xn_eq, xn_mul, xn_add, xn_sub, xn_dec, xn_m1, xn_1m, if_pos, if_neg, if_true, if_false, cond_true, cond_false, true_and, and_true, false_and, and_false, xr_cI_s, xr_cV_s, xr_cI_e, xr_cV_e, xm_xs, xs_xs, G.2.2.2.1 (2 * p) (by omega)]
        · rw [xg222_54_4]; simp (disch := omega) only [xi_t, xn_k, xn_lt, xn_eq, xn_mul, xn_add, xn_sub, xn_dec, xn_m1, xn_1m, if_pos, if_neg, if_true, if_false, cond_true, cond_false, true_and, and_true, false_and, and_false, xr_cI_s, xr_cV_s, xr_cI_e, xr_cV_e, xm_xs, xs_xs, I'.2.2.1.1, Nat.add_sub_cancel]
      · refine Or.inl ⟨g (16 + (2 * p + 1)), qOk_of (c0 _ ?_) (m0 _ (fun T I' => ?_))⟩
        · rw [xg109_21_5]; simp (disch := omega) only [xi_t, xn_k, xn_lt, xn_eq, xn_mul, xn_add, xn_sub, xn_dec, xn_m1, xn_1m, if_pos, if_neg, if_true, if_false, cond_true, cond_false, true_and, and_true, false_and, and_false, xr_cI_s, xr_cV_s, xr_cI_e, xr_cV_e, xm_xs, xs_xs, G.2.2.2.1 (2 * p + 1) (by omega)]
        · rw [xg222_54_5]; simp (disch := omega) only [xi_t, xn_k, xn_lt, xn_eq, xn_mul, xn_add, xn_sub, xn_dec, xn_m1, xn_1m, if_pos, if_neg, if_true, if_false, cond_true, cond_false, true_and, and_true, false_and, and_false, xr_cI_s, xr_cV_s, xr_cI_e, xr_cV_e, xm_xs, xs_xs, I'.2.2.1.1, show 16 + 2 * p + 5 - 4 = 16 + (2 * p + 1) by omega]
      · refine Or.inl ⟨nI (gap g (2 * p) (2 * p + 1) (pl p)), qOk_of (c0 _ ?_) (m0 _ (fun T I' => ?_))⟩
        · rw [xg109_21_6]
          have ea : (2 * p) / 2 = p := by omega
          have eb : (2 * p + 1) / 2 = p := by omega
          simp (disch := first | omega | (rw [ea]; omega) | (rw [eb]; omega)) only [xi_t, xn_k, xn_lt, xn_eq, xn_mul, xn_add, xn_sub, xn_dec, xn_m1, xn_1m, if_pos, if_neg, if_true, if_false, cond_true, cond_false, true_and, and_true, false_and, and_false, xr_cI_s, xr_cV_s, xr_cI_e, xr_cV_e, xm_xs, xs_xs, c41, gc13 (Or.inl rfl) G W b1 (a := 2 * p) (b := 2 * p + 1) (n := pl p)]
        · rw [xg222_54_6, gm204 (Or.inl rfl) I'.1 (by rw [I'.2.2.1.1]; exact W) hpq, xr_cI_s, I'.2.2.1.1]
      · refine Or.inl ⟨oI (hcol h s (nI p)), qOk_of (c0 _ ?_) (m0 _ (fun T I' => ?_))⟩
        · rw [xg109_21_7, hc38 (Or.inl rfl) Hc (xhB_le (by omega) B), xr_cI_s]
        · rw [xg222_54_7, hm199 (h := h) (s := s) (Or.inl rfl) (by rw [I'.2.2.1.1]; exact Hm) (xhB_le (by omega) B), xr_cI_s]
    · refine Or.inr (Or.inr ⟨by omega, qNo_of (nI 0) (by omega) ?_ (fun T hT => ?_)⟩)
      · rw [xe109]; simp (disch := omega) only [xi_t, xn_k, xn_lt, xn_eq, xn_mul, xn_add, xn_sub, xn_dec, xn_m1, xn_1m, if_pos, if_neg, if_true, if_false, cond_true, cond_false, true_and, and_true, false_and, and_false, xr_cI_s, xr_cV_s, xr_cI_e, xr_cV_e, xm_xs, xs_xs, p1, qc140y hpq, qc141n (by omega) (by omega) q2]
      · rw [xe222]; have e0 : xm (xs T (xw (xm T) 0 69 0 (nI 0))) 0 69 0 = nI 0 := (by rw [xm_xs, xw_y (by omega)]); have f1 : xm (xs T (xw (xm T) 0 69 0 (nI 0))) 0 73 1 = nI nq := (by rw [xm_xs, xw_n (by omega), hT, xw_n (by omega)]; exact m1)
        simp (disch := omega) only [xi_t, xn_k, xn_lt, xn_eq, xn_mul, xn_add, xn_sub, xn_dec, xn_m1, xn_1m, if_pos, if_neg, if_true, if_false, cond_true, cond_false, true_and, and_true, false_and, and_false, xr_cI_s, xr_cV_s, xr_cI_e, xr_cV_e, xm_xs, xs_xs, qm218y hpq (by omega) f1, qm152n (by omega) (by omega) q2, qm151f _ _ e0, qm151t (t := 2) (r := 1) (by omega) (by omega) (by omega) e0]
  · refine Or.inr (Or.inl ⟨by omega, qNo_of (nI 0) (by omega) ?_ (fun T hT => ?_)⟩)
    · rw [xe109]; simp (disch := omega) only [xi_t, xn_k, xn_lt, xn_eq, xn_mul, xn_add, xn_sub, xn_dec, xn_m1, xn_1m, if_pos, if_neg, if_true, if_false, cond_true, cond_false, true_and, and_true, false_and, and_false, xr_cI_s, xr_cV_s, xr_cI_e, xr_cV_e, xm_xs, xs_xs, p1, qc140n (by omega) q]
    · rw [xe222]; have e0 : xm (xs T (xw (xm T) 0 69 0 (nI 0))) 0 69 0 = nI 0 := (by rw [xm_xs, xw_y (by omega)]); have f1 : xm (xs T (xw (xm T) 0 69 0 (nI 0))) 0 73 1 = nI nq := (by rw [xm_xs, xw_n (by omega), hT, xw_n (by omega)]; exact m1)
      simp (disch := omega) only [xi_t, xn_k, xn_lt, xn_eq, xn_mul, xn_add, xn_sub, xn_dec, xn_m1, xn_1m, if_pos, if_neg, if_true, if_false, cond_true, cond_false, true_and, and_true, false_and, and_false, xr_cI_s, xr_cV_s, xr_cI_e, xr_cV_e, xm_xs, xs_xs, qm218n (by omega) f1 q, qm151t (t := 1) (r := 0) (by omega) (by omega) (by omega) e0]
theorem q_depth (I : xIq (xm S) np nq ch st du pl dy dp sz kd gv g h s ln ti fl) (a b c : Int32) : qRes d 110 223 [xI a, xI b, xI c] S 1 0 := by
  obtain ⟨P, ⟨Lc, Lm, Lv⟩, ⟨e89, G, W⟩, ⟨Hc, Hm, HI⟩, To⟩ := id I; obtain ⟨⟨p0, p1, p2, p3⟩, ⟨m0, m1, m2, m3⟩, ⟨b0, b1, b2, b3, b4⟩, hp, hd⟩ := id P
  by_cases q : xrl a nq
  · obtain ⟨p, hpq, rfl⟩ := q
    obtain ⟨c39, c40, c41, d2, d3, d4, l1, l2, l3⟩ := hp p hpq
    by_cases q2 : xrl b 2
    · obtain ⟨k, hk, rfl⟩ := q2
      by_cases q3 : xrl c (pl p)
      · obtain ⟨i, hi, rfl⟩ := q3
        refine Or.inl ⟨g (48 + 6 * (2 * p + k) + i), qOk_of ?_ ?_⟩
        · rw [xe110]; simp (disch := omega) only [xi_t, xn_k, xn_lt, xn_eq, xn_mul, xn_add, xn_sub, xn_dec, xn_m1, xn_1m, if_pos, if_neg, if_true, if_false, cond_true, cond_false, true_and, and_true, false_and, and_false, xr_cI_s, xr_cV_s, xr_cI_e, xr_cV_e, xm_xs, xs_xs, p1, qc140y hpq, qc140y hk, c41, qc140y hi, G.2.2.2.2.2 (2 * p + k) i (by omega) (by rw [show (2 * p + k) / 2 = p by omega]; exact hi)]
        · rw [xe223]; obtain ⟨T, hT, e0, I'⟩ := xT_ex I; rw [← hT]; obtain ⟨P', ⟨Lc', Lm', Lv'⟩, ⟨e89', G', W'⟩, ⟨Hc', Hm', HI'⟩, To'⟩ := id I'; obtain ⟨⟨p0', p1', p2', p3'⟩, ⟨m0', m1', m2', m3'⟩, ⟨b0', b1', b2', b3', b4'⟩, hp', hd'⟩ := id P'
          have d4' := (hp' p hpq).2.2.2.2.2.1
          simp (disch := omega) only [xi_t, xn_k, xn_eq, xn_mul, xn_add, if_neg, if_pos, if_true, cond_true, xr_cI_s, qm218y hpq (by omega) m1', qm152y (Nat.zero_le k) (show k ≤ 1 by omega), d4', qm152l hi (by omega), qm151f _ _ e0, xe201 (d + 58) _ _ 89 (Or.inl rfl), e89']
      · refine Or.inr (Or.inl ⟨by omega, qNo_of (nI 0) (by omega) ?_ (fun T hT => ?_)⟩)
        · rw [xe110]; simp (disch := omega) only [xi_t, xn_k, xn_lt, xn_eq, xn_mul, xn_add, xn_sub, xn_dec, xn_m1, xn_1m, if_pos, if_neg, if_true, if_false, cond_true, cond_false, true_and, and_true, false_and, and_false, xr_cI_s, xr_cV_s, xr_cI_e, xr_cV_e, xm_xs, xs_xs, p1, qc140y hpq, qc140y hk, c41, qc140n (by omega) q3]
        · rw [xe223]; have e0 : xm (xs T (xw (xm T) 0 69 0 (nI 0))) 0 69 0 = nI 0 := (by rw [xm_xs, xw_y (by omega)]); have f1 : xm (xs T (xw (xm T) 0 69 0 (nI 0))) 0 73 1 = nI nq := (by rw [xm_xs, xw_n (by omega), hT, xw_n (by omega)]; exact m1)
          have d4' : xm (xs T (xw (xm T) 0 69 0 (nI 0))) p 1079 4 = nI (pl p) := by rw [xm_xs, xw_n (by omega), hT, xw_n (by omega)]; exact d4
          simp (disch := omega) only [xi_t, xn_k, xn_eq, xn_mul, xn_add, if_neg, if_pos, if_true, cond_true, xr_cI_s, qm218y hpq (by omega) f1, qm152y (Nat.zero_le k) (show k ≤ 1 by omega), d4', qm152m (show pl p < 100000000 by omega) q3, qm151t (t := 1) (r := 0) (by omega) (by omega) (by omega) e0, xm_xs, xs_xs]
    · refine Or.inr (Or.inl ⟨by omega, qNo_of (nI 0) (by omega) ?_ (fun T hT => ?_)⟩)
      · rw [xe110]; simp (disch := omega) only [xi_t, xn_k, xn_lt, xn_eq, xn_mul, xn_add, xn_sub, xn_dec, xn_m1, xn_1m, if_pos, if_neg, if_true, if_false, cond_true, cond_false, true_and, and_true, false_and, and_false, xr_cI_s, xr_cV_s, xr_cI_e, xr_cV_e, xm_xs, xs_xs, p1, qc140y hpq, qc140n (by omega) q2]
      · rw [xe223]; have e0 : xm (xs T (xw (xm T) 0 69 0 (nI 0))) 0 69 0 = nI 0 := (by rw [xm_xs, xw_y (by omega)]); have f1 : xm (xs T (xw (xm T) 0 69 0 (nI 0))) 0 73 1 = nI nq := (by rw [xm_xs, xw_n (by omega), hT, xw_n (by omega)]; exact m1)
        simp (disch := omega) only [xi_t, xn_k, xn_lt, xn_eq, xn_mul, xn_add, xn_sub, xn_dec, xn_m1, xn_1m, if_pos, if_neg, if_true, if_false, cond_true, cond_false, true_and, and_true, false_and, and_false, xr_cI_s, xr_cV_s, xr_cI_e, xr_cV_e, xm_xs, xs_xs, qm218y hpq (by omega) f1, qm152n (by omega) (by omega) (xrl_rg q2), qm151t (t := 1) (r := 0) (by omega) (by omega) (by omega) e0]
  · refine Or.inr (Or.inl ⟨by omega, qNo_of (nI 0) (by omega) ?_ (fun T hT => ?_)⟩)
    · rw [xe110]; simp (disch := omega) only [xi_t, xn_k, xn_lt, xn_eq, xn_mul, xn_add, xn_sub, xn_dec, xn_m1, xn_1m, if_pos, if_neg, if_true, if_false, cond_true, cond_false, true_and, and_true, false_and, and_false, xr_cI_s, xr_cV_s, xr_cI_e, xr_cV_e, xm_xs, xs_xs, p1, qc140n (by omega) q]
    · rw [xe223]; have e0 : xm (xs T (xw (xm T) 0 69 0 (nI 0))) 0 69 0 = nI 0 := (by rw [xm_xs, xw_y (by omega)]); have f1 : xm (xs T (xw (xm T) 0 69 0 (nI 0))) 0 73 1 = nI nq := (by rw [xm_xs, xw_n (by omega), hT, xw_n (by omega)]; exact m1)
      simp (disch := omega) only [xi_t, xn_k, xn_lt, xn_eq, xn_mul, xn_add, xn_sub, xn_dec, xn_m1, xn_1m, if_pos, if_neg, if_true, if_false, cond_true, cond_false, true_and, and_true, false_and, and_false, xr_cI_s, xr_cV_s, xr_cI_e, xr_cV_e, xm_xs, xs_xs, qm218n (by omega) f1 q, qm151t (t := 1) (r := 0) (by omega) (by omega) (by omega) e0]
theorem q_would (I : xIq (xm S) np nq ch st du pl dy dp sz kd gv g h s ln ti fl) (a0 a1 a2 a3 a4 a5 : Int32) : qRes d 111 224 [xI a0, xI a1, xI a2, xI a3, xI a4, xI a5] S 0 1 := by
  obtain ⟨P, ⟨Lc, Lm, Lv⟩, ⟨e89, G, W⟩, ⟨Hc, Hm, HI⟩, To⟩ := id I; obtain ⟨⟨p0, p1, p2, p3⟩, ⟨m0, m1, m2, m3⟩, ⟨b0, b1, b2, b3, b4⟩, hp, hd⟩ := id P
  by_cases q0 : xrg a0 0 9
  · obtain ⟨k0, _, h0, rfl⟩ := q0
    by_cases q1 : xrg a1 0 5
    · obtain ⟨k1, _, h1, rfl⟩ := q1
      by_cases q2 : xrg a2 0 1
      · obtain ⟨k2, _, h2, rfl⟩ := q2
        by_cases q3 : xrg a3 0 200
        · obtain ⟨k3, _, h3, rfl⟩ := q3
          by_cases q4 : xrg a4 0 200
          · obtain ⟨k4, _, h4, rfl⟩ := q4
            by_cases q5 : xrg a5 0 1
            · obtain ⟨k5, _, h5, rfl⟩ := q5
              obtain ⟨M1, r1, F1⟩ := lc53 (d := d + 56) (w := [35, 44, 53, 58, 63, 66]) Lv Lc (a := k0) (by omega) (nI k1) (nI k2) (nI k3) (nI k4) (nI k5)
              obtain ⟨M2, r2, F2⟩ := lm207 (d := d + 55) (w := [35, 44, 53, 58, 63, 66]) (S := xs S (xw M1 0 69 0 (nI 0))) Lv (xLm_fr (M := xm S) (fun k => by rw [xm_xs, xw_r (by omega), F1 k 1082 (by omega)]) (by rw [xm_xs, xw_n (by omega), F1 0 69 (by omega)]) Lm) (a := k0) (by omega) (nI k1) (nI k2) (nI k3) (nI k4) (nI k5)
              refine Or.inl ⟨nI (lwear sz kd gv k0 (nI k1) (nI k2) (nI k3) (nI k4) (nI k5)), M1, M2, ?_, ?_, ?_, fun b e h => ?_, fun k h1 h2 => ?_⟩
              · rw [xe111]; simp (disch := omega) only [xi_t, xn_k, xn_lt, xn_eq, xn_mul, xn_add, xn_sub, xn_dec, xn_m1, xn_1m, if_pos, if_neg, if_true, if_false, cond_true, cond_false, true_and, and_true, false_and, and_false, xr_cI_s, xr_cV_s, xr_cI_e, xr_cV_e, xm_xs, xs_xs, qc141y (Nat.zero_le k0) h0, qc141y (Nat.zero_le k1) h1, qc141y (Nat.zero_le k2) h2, qc141y (Nat.zero_le k3) h3, qc141y (Nat.zero_le k4) h4, qc141y (Nat.zero_le k5) h5, r1]
              · rw [xe224]
                have e0 : xm (xs S (xw M1 0 69 0 (nI 0))) 0 69 0 = nI 0 := by rw [xm_xs, xw_y (by omega)]
                simp (disch := omega) only [xi_t, xn_k, xn_lt, xn_eq, xn_mul, xn_add, xn_sub, xn_dec, xn_m1, xn_1m, if_pos, if_neg, if_true, if_false, cond_true, cond_false, true_and, and_true, false_and, and_false, xr_cI_s, xr_cV_s, xr_cI_e, xr_cV_e, xm_xs, xs_xs, qm152y (Nat.zero_le k0) h0, qm152y (Nat.zero_le k1) h1, qm152y (Nat.zero_le k2) h2, qm152y (Nat.zero_le k3) h3, qm152y (Nat.zero_le k4) h4, qm152y (Nat.zero_le k5) h5, qm151f _ _ e0, r2]
              · rw [F2 0 69 (by omega), xm_xs, xw_y (by omega)]
              · rw [F2 b e (by omega), xm_xs, xw_r (by omega), F1 b e (by omega)]
              · rw [F2 0 69 (by omega), xm_xs, xw_n (by omega), F1 0 69 (by omega)]
            · refine Or.inr (Or.inr ⟨by omega, qNo_of (nI 0) (by omega) ?_ (fun T hT => ?_)⟩)
              · rw [xe111]; simp (disch := omega) only [xi_t, xn_k, xn_lt, xn_eq, xn_mul, xn_add, xn_sub, xn_dec, xn_m1, xn_1m, if_pos, if_neg, if_true, if_false, cond_true, cond_false, true_and, and_true, false_and, and_false, xr_cI_s, xr_cV_s, xr_cI_e, xr_cV_e, xm_xs, xs_xs, qc141y (Nat.zero_le k0) h0, qc141y (Nat.zero_le k1) h1, qc141y (Nat.zero_le k2) h2, qc141y (Nat.zero_le k3) h3, qc141y (Nat.zero_le k4) h4, qc141n (by omega) (by omega) q5]
              · rw [xe224]; have e0 : xm (xs T (xw (xm T) 0 69 0 (nI 0))) 0 69 0 = nI 0 := (by rw [xm_xs, xw_y (by omega)])
                simp (disch := omega) only [xi_t, xn_k, xn_lt, xn_eq, xn_mul, xn_add, xn_sub, xn_dec, xn_m1, xn_1m, if_pos, if_neg, if_true, if_false, cond_true, cond_false, true_and, and_true, false_and, and_false, xr_cI_s, xr_cV_s, xr_cI_e, xr_cV_e, xm_xs, xs_xs, qm152y (Nat.zero_le k0) h0, qm152y (Nat.zero_le k1) h1, qm152y (Nat.zero_le k2) h2, qm152y (Nat.zero_le k3) h3, qm152y (Nat.zero_le k4) h4, qm152n (by omega) (by omega) q5, qm151t (t := 1) (r := 1) (by omega) (by omega) (by omega) e0]
          · refine Or.inr (Or.inr ⟨by omega, qNo_of (nI 0) (by omega) ?_ (fun T hT => ?_)⟩)
            · rw [xe111]; simp (disch := omega) only [xi_t, xn_k, xn_lt, xn_eq, xn_mul, xn_add, xn_sub, xn_dec, xn_m1, xn_1m, if_pos, if_neg, if_true, if_false, cond_true, cond_false, true_and, and_true, false_and, and_false, xr_cI_s, xr_cV_s, xr_cI_e, xr_cV_e, xm_xs, xs_xs, qc141y (Nat.zero_le k0) h0, qc141y (Nat.zero_le k1) h1, qc141y (Nat.zero_le k2) h2, qc141y (Nat.zero_le k3) h3, qc141n (by omega) (by omega) q4]
            · rw [xe224]; have e0 : xm (xs T (xw (xm T) 0 69 0 (nI 0))) 0 69 0 = nI 0 := (by rw [xm_xs, xw_y (by omega)])
              simp (disch := omega) only [xi_t, xn_k, xn_lt, xn_eq, xn_mul, xn_add, xn_sub, xn_dec, xn_m1, xn_1m, if_pos, if_neg, if_true, if_false, cond_true, cond_false, true_and, and_true, false_and, and_false, xr_cI_s, xr_cV_s, xr_cI_e, xr_cV_e, xm_xs, xs_xs, qm152y (Nat.zero_le k0) h0, qm152y (Nat.zero_le k1) h1, qm152y (Nat.zero_le k2) h2, qm152y (Nat.zero_le k3) h3, qm152n (by omega) (by omega) q4, qm151t (t := 1) (r := 1) (by omega) (by omega) (by omega) e0]
        · refine Or.inr (Or.inr ⟨by omega, qNo_of (nI 0) (by omega) ?_ (fun T hT => ?_)⟩)
          · rw [xe111]; simp (disch := omega) only [xi_t, xn_k, xn_lt, xn_eq, xn_mul, xn_add, xn_sub, xn_dec, xn_m1, xn_1m, if_pos, if_neg, if_true, if_false, cond_true, cond_false, true_and, and_true, false_and, and_false, xr_cI_s, xr_cV_s, xr_cI_e, xr_cV_e, xm_xs, xs_xs, qc141y (Nat.zero_le k0) h0, qc141y (Nat.zero_le k1) h1, qc141y (Nat.zero_le k2) h2, qc141n (by omega) (by omega) q3]
          · rw [xe224]; have e0 : xm (xs T (xw (xm T) 0 69 0 (nI 0))) 0 69 0 = nI 0 := (by rw [xm_xs, xw_y (by omega)])
            simp (disch := omega) only [xi_t, xn_k, xn_lt, xn_eq, xn_mul, xn_add, xn_sub, xn_dec, xn_m1, xn_1m, if_pos, if_neg, if_true, if_false, cond_true, cond_false, true_and, and_true, false_and, and_false, xr_cI_s, xr_cV_s, xr_cI_e, xr_cV_e, xm_xs, xs_xs, qm152y (Nat.zero_le k0) h0, qm152y (Nat.zero_le k1) h1, qm152y (Nat.zero_le k2) h2, qm152n (by omega) (by omega) q3, qm151t (t := 1) (r := 1) (by omega) (by omega) (by omega) e0]
      · refine Or.inr (Or.inr ⟨by omega, qNo_of (nI 0) (by omega) ?_ (fun T hT => ?_)⟩)
        · rw [xe111]; simp (disch := omega) only [xi_t, xn_k, xn_lt, xn_eq, xn_mul, xn_add, xn_sub, xn_dec, xn_m1, xn_1m, if_pos, if_neg, if_true, if_false, cond_true, cond_false, true_and, and_true, false_and, and_false, xr_cI_s, xr_cV_s, xr_cI_e, xr_cV_e, xm_xs, xs_xs, qc141y (Nat.zero_le k0) h0, qc141y (Nat.zero_le k1) h1, qc141n (by omega) (by omega) q2]
        · rw [xe224]; have e0 : xm (xs T (xw (xm T) 0 69 0 (nI 0))) 0 69 0 = nI 0 := (by rw [xm_xs, xw_y (by omega)])
          simp (disch := omega) only [xi_t, xn_k, xn_lt, xn_eq, xn_mul, xn_add, xn_sub, xn_dec, xn_m1, xn_1m, if_pos, if_neg, if_true, if_false, cond_true, cond_false, true_and, and_true, false_and, and_false, xr_cI_s, xr_cV_s, xr_cI_e, xr_cV_e, xm_xs, xs_xs, qm152y (Nat.zero_le k0) h0, qm152y (Nat.zero_le k1) h1, qm152n (by omega) (by omega) q2, qm151t (t := 1) (r := 1) (by omega) (by omega) (by omega) e0]
    · refine Or.inr (Or.inr ⟨by omega, qNo_of (nI 0) (by omega) ?_ (fun T hT => ?_)⟩)
      · rw [xe111]; simp (disch := omega) only [xi_t, xn_k, xn_lt, xn_eq, xn_mul, xn_add, xn_sub, xn_dec, xn_m1, xn_1m, if_pos, if_neg, if_true, if_false, cond_true, cond_false, true_and, and_true, false_and, and_false, xr_cI_s, xr_cV_s, xr_cI_e, xr_cV_e, xm_xs, xs_xs, qc141y (Nat.zero_le k0) h0, qc141n (by omega) (by omega) q1]
      · rw [xe224]; have e0 : xm (xs T (xw (xm T) 0 69 0 (nI 0))) 0 69 0 = nI 0 := (by rw [xm_xs, xw_y (by omega)])
        simp (disch := omega) only [xi_t, xn_k, xn_lt, xn_eq, xn_mul, xn_add, xn_sub, xn_dec, xn_m1, xn_1m, if_pos, if_neg, if_true, if_false, cond_true, cond_false, true_and, and_true, false_and, and_false, xr_cI_s, xr_cV_s, xr_cI_e, xr_cV_e, xm_xs, xs_xs, qm152y (Nat.zero_le k0) h0, qm152n (by omega) (by omega) q1, qm151t (t := 1) (r := 1) (by omega) (by omega) (by omega) e0]
  · refine Or.inr (Or.inr ⟨by omega, qNo_of (nI 0) (by omega) ?_ (fun T hT => ?_)⟩)
    · rw [xe111]; simp (disch := omega) only [xi_t, xn_k, xn_lt, xn_eq, xn_mul, xn_add, xn_sub, xn_dec, xn_m1, xn_1m, if_pos, if_neg, if_true, if_false, cond_true, cond_false, true_and, and_true, false_and, and_false, xr_cI_s, xr_cV_s, xr_cI_e, xr_cV_e, xm_xs, xs_xs, qc141n (by omega) (by omega) q0]
    · rw [xe224]; have e0 : xm (xs T (xw (xm T) 0 69 0 (nI 0))) 0 69 0 = nI 0 := (by rw [xm_xs, xw_y (by omega)])
      simp (disch := omega) only [xi_t, xn_k, xn_lt, xn_eq, xn_mul, xn_add, xn_sub, xn_dec, xn_m1, xn_1m, if_pos, if_neg, if_true, if_false, cond_true, cond_false, true_and, and_true, false_and, and_false, xr_cI_s, xr_cV_s, xr_cI_e, xr_cV_e, xm_xs, xs_xs, qm152n (by omega) (by omega) q0, qm151t (t := 1) (r := 1) (by omega) (by omega) (by omega) e0]
theorem q_forge (I : xIq (xm S) np nq ch st du pl dy dp sz kd gv g h s ln ti fl) (a b : Int32) : qRes d 124 254 [xI a, xI b] S 1 0 := by
  obtain ⟨P, ⟨Lc, Lm, Lv⟩, ⟨e89, G, W⟩, ⟨Hc, Hm, HI⟩, To⟩ := id I; obtain ⟨⟨p0, p1, p2, p3⟩, ⟨m0, m1, m2, m3⟩, ⟨b0, b1, b2, b3, b4⟩, hp, hd⟩ := id P
  by_cases q : xrl a (2 * nq)
  · obtain ⟨k, hk, rfl⟩ := q
    by_cases q2 : xrl b (2 * nq)
    · obtain ⟨j, hj, rfl⟩ := q2
      refine Or.inl ⟨oI (gchips ch pl g k j), qOk_of ?_ ?_⟩
      · rw [xe124]; simp (disch := omega) only [xi_t, xn_k, xn_lt, xn_eq, xn_mul, xn_add, xn_sub, xn_dec, xn_m1, xn_1m, if_pos, if_neg, if_true, if_false, cond_true, cond_false, true_and, and_true, false_and, and_false, xr_cI_s, xr_cV_s, xr_cI_e, xr_cV_e, xm_xs, xs_xs, p1, qc140y hk, qc140y hj, gc15 (Or.inl rfl) P G W]
      · rw [xe254]; obtain ⟨T, hT, e0, I'⟩ := xT_ex I; rw [← hT]; obtain ⟨P', ⟨Lc', Lm', Lv'⟩, ⟨e89', G', W'⟩, ⟨Hc', Hm', HI'⟩, To'⟩ := id I'; obtain ⟨⟨p0', p1', p2', p3'⟩, ⟨m0', m1', m2', m3'⟩, ⟨b0', b1', b2', b3', b4'⟩, hp', hd'⟩ := id P'
        have e5 := gm253 (d := d + 56) (w := [35, 44, 53, 58, 63, 66]) P' (by rw [e89']; exact W) hk hj
        rw [e89'] at e5
        simp (disch := omega) only [xi_t, xn_k, xn_lt, xn_eq, xn_mul, xn_add, xn_sub, xn_dec, xn_m1, xn_1m, if_pos, if_neg, if_true, if_false, cond_true, cond_false, true_and, and_true, false_and, and_false, xr_cI_s, xr_cV_s, xr_cI_e, xr_cV_e, xm_xs, xs_xs, qm219y hk (by omega) m1', qm219y hj (by omega) m1', qm151f _ _ e0, e5]
    · refine Or.inr (Or.inl ⟨by omega, qNo_of (nI 0) (by omega) ?_ (fun T hT => ?_)⟩)
      · rw [xe124]; simp (disch := omega) only [xi_t, xn_k, xn_lt, xn_eq, xn_mul, xn_add, xn_sub, xn_dec, xn_m1, xn_1m, if_pos, if_neg, if_true, if_false, cond_true, cond_false, true_and, and_true, false_and, and_false, xr_cI_s, xr_cV_s, xr_cI_e, xr_cV_e, xm_xs, xs_xs, p1, qc140y hk, qc140n (show 2 * nq < 2147483648 by omega) q2]
      · rw [xe254]; have e0 : xm (xs T (xw (xm T) 0 69 0 (nI 0))) 0 69 0 = nI 0 := (by rw [xm_xs, xw_y (by omega)]); have f1 : xm (xs T (xw (xm T) 0 69 0 (nI 0))) 0 73 1 = nI nq := (by rw [xm_xs, xw_n (by omega), hT, xw_n (by omega)]; exact m1)
        simp (disch := omega) only [xi_t, xn_k, xn_lt, xn_eq, xn_mul, xn_add, xn_sub, xn_dec, xn_m1, xn_1m, if_pos, if_neg, if_true, if_false, cond_true, cond_false, true_and, and_true, false_and, and_false, xr_cI_s, xr_cV_s, xr_cI_e, xr_cV_e, xm_xs, xs_xs, qm219y hk (by omega) f1, qm219n (by omega) f1 q2, qm151t (t := 1) (r := 0) (by omega) (by omega) (by omega) e0]
  · refine Or.inr (Or.inl ⟨by omega, qNo_of (nI 0) (by omega) ?_ (fun T hT => ?_)⟩)
    · rw [xe124]; simp (disch := omega) only [xi_t, xn_k, xn_lt, xn_eq, xn_mul, xn_add, xn_sub, xn_dec, xn_m1, xn_1m, if_pos, if_neg, if_true, if_false, cond_true, cond_false, true_and, and_true, false_and, and_false, xr_cI_s, xr_cV_s, xr_cI_e, xr_cV_e, xm_xs, xs_xs, p1, qc140n (show 2 * nq < 2147483648 by omega) q]
    · rw [xe254]; have e0 : xm (xs T (xw (xm T) 0 69 0 (nI 0))) 0 69 0 = nI 0 := (by rw [xm_xs, xw_y (by omega)]); have f1 : xm (xs T (xw (xm T) 0 69 0 (nI 0))) 0 73 1 = nI nq := (by rw [xm_xs, xw_n (by omega), hT, xw_n (by omega)]; exact m1)
      simp (disch := omega) only [xi_t, xn_k, xn_lt, xn_eq, xn_mul, xn_add, xn_sub, xn_dec, xn_m1, xn_1m, if_pos, if_neg, if_true, if_false, cond_true, cond_false, true_and, and_true, false_and, and_false, xr_cI_s, xr_cV_s, xr_cI_e, xr_cV_e, xm_xs, xs_xs, qm219n (by omega) f1 q, qm151t (t := 1) (r := 0) (by omega) (by omega) (by omega) e0]
theorem q_gets (I : xIq (xm S) np nq ch st du pl dy dp sz kd gv g h s ln ti fl) (a b : Int32) : qRes d 130 237 [xI a, xI b] S 1 2 := by
  obtain ⟨P, ⟨Lc, Lm, Lv⟩, ⟨e89, G, W⟩, ⟨Hc, Hm, HI⟩, To⟩ := id I; obtain ⟨⟨p0, p1, p2, p3⟩, ⟨m0, m1, m2, m3⟩, ⟨b0, b1, b2, b3, b4⟩, hp, hd⟩ := id P
  by_cases q : xrl a nq
  · obtain ⟨p, hpq, rfl⟩ := q
    by_cases q2 : xrg b 0 400
    · obtain ⟨n, _, hn, rfl⟩ := q2
      obtain ⟨c39, c40, c41, d2, d3, d4, l1, l2, l3⟩ := hp p hpq
      have hb : ∀ l, gclaim nq du dy g l ≤ nq * l := fun l => xsN_le nq (fun k _ => by split <;> omega)
      have bl : gbnd nq du dy g n ≤ 40 := by
        unfold gbnd
        cases hf : xfst (fun k => decide (n < gclaim nq du dy g (k + 1))) 40 0 with
        | none => exact Nat.le_refl _
        | some B =>
          have := (xfst_some _ _ _ hf).2.1
          show B ≤ 40
          omega
      refine Or.inl ⟨if g (8 + p) = nI 0 ∧ dy p < g 144 then nI (min (gbnd nq du dy g n) (du p)) else nI 0, qOk_of ?_ ?_⟩
      · rw [xe130]; simp (disch := omega) only [xi_t, xn_k, xn_lt, xn_eq, xn_mul, xn_add, xn_sub, xn_dec, xn_m1, xn_1m, if_pos, if_neg, if_true, if_false, cond_true, cond_false, true_and, and_true, false_and, and_false, xr_cI_s, xr_cV_s, xr_cI_e, xr_cV_e, xm_xs, xs_xs, p1, qc140y hpq, qc141y (Nat.zero_le n) hn, gc16 (Or.inl rfl) P G hpq]
        unfold bI
        by_cases q3 : g (8 + p) = nI 0 ∧ dy p < g 144
        · simp (disch := omega) only [xi_t, xn_k, xn_lt, xn_eq, xn_mul, xn_add, xn_sub, xn_dec, xn_m1, xn_1m, if_pos, if_neg, if_true, if_false, cond_true, cond_false, true_and, and_true, false_and, and_false, xr_cI_s, xr_cV_s, xr_cI_e, xr_cV_e, xm_xs, xs_xs, q3, gc22 (Or.inl rfl) P G (show n < 1000 by omega), c39, glev_eq, xn_minA]
          rw [Nat.min_comm]
        · simp (disch := omega) only [xi_t, xn_k, xn_lt, xn_eq, xn_mul, xn_add, xn_sub, xn_dec, xn_m1, xn_1m, if_pos, if_neg, if_true, if_false, cond_true, cond_false, true_and, and_true, false_and, and_false, xr_cI_s, xr_cV_s, xr_cI_e, xr_cV_e, xm_xs, xs_xs, q3]
      · rw [xe237]; obtain ⟨T, hT, e0, I'⟩ := xT_ex I; rw [← hT]; obtain ⟨P', ⟨Lc', Lm', Lv'⟩, ⟨e89', G', W'⟩, ⟨Hc', Hm', HI'⟩, To'⟩ := id I'; obtain ⟨⟨p0', p1', p2', p3'⟩, ⟨m0', m1', m2', m3'⟩, ⟨b0', b1', b2', b3', b4'⟩, hp', hd'⟩ := id P'
        simp (disch := omega) only [xi_t, xn_k, xn_lt, xn_eq, xn_mul, xn_add, xn_sub, xn_dec, xn_m1, xn_1m, if_pos, if_neg, if_true, if_false, cond_true, cond_false, true_and, and_true, false_and, and_false, xr_cI_s, xr_cV_s, xr_cI_e, xr_cV_e, xm_xs, xs_xs, qm218y hpq (by omega) m1', qm152y (Nat.zero_le n) hn, qm151f _ _ e0]
        have d2' := (hp' p hpq).2.2.2.1
        have fin : ∀ B, B ≤ 40 → xr_cI xMd (xr_Call (d + 59) 208 [xP 0 69, xP 0 89, xI (nI p)] xMd T) (fun x8 S7 => (if x8 = (nI 0) then (some (.inl (some (nI 0)), xMd, S7)) else (cond (xr_in (nI p) 8) (cond (xr_in (nI 2) 5) (xr_cI xMd (xr_Call (d + 59) 153 [xI (nI B), xI ((xm S7) (xk (nI p)) 1079 (xk (nI 2)))] xMd S7) (fun x10 S9 => (some (.inl (some x10), xMd, S9)))) none) none))) = some (.inl (some (if g (8 + p) = nI 0 ∧ dy p < g 144 then nI (min B (du p)) else nI 0)), xMd, T) := by
          intro B hB
          rw [gm208 (c := 89) (Or.inl rfl) P' hpq, e89', xr_cI_s]
          unfold bI
          by_cases q3 : g (8 + p) = nI 0 ∧ dy p < g 144
          · simp (disch := omega) only [xi_t, xn_k, xn_lt, xn_eq, xn_mul, xn_add, xn_sub, xn_dec, xn_m1, xn_1m, if_pos, if_neg, if_true, if_false, cond_true, cond_false, true_and, and_true, false_and, and_false, xr_cI_s, xr_cV_s, xr_cI_e, xr_cV_e, xm_xs, xs_xs, q3, d2', xe153]
            by_cases q4 : B < du p
            · rw [if_pos q4, xr_cI_s, Nat.min_eq_left (by omega)]
            · rw [if_neg q4, xr_cI_s, Nat.min_eq_right (by omega)]
          · simp (disch := omega) only [xi_t, xn_k, xn_lt, xn_eq, xn_mul, xn_add, xn_sub, xn_dec, xn_m1, xn_1m, if_pos, if_neg, if_true, if_false, cond_true, cond_false, true_and, and_true, false_and, and_false, xr_cI_s, xr_cV_s, xr_cI_e, xr_cV_e, xm_xs, xs_xs, q3]
        refine (xl_fst (T := fun k => xr_Run (d + 59) 237 56 [xP 0 69, xI (nI p), xI (nI n), xI (nI k)] [] xMd T) (R := fun k => some (.inl (some (if g (8 + p) = nI 0 ∧ dy p < g 144 then nI (min k (du p)) else nI 0)), xMd, T)) (c := fun k => decide (n < gclaim nq du dy g (k + 1))) (n := 40) (fun k hk => ?_)).trans ?_
        · refine (xg237_56 _ _ _ _ _ _).trans ?_
          have := hb (k + 1)
          have : nq * (k + 1) ≤ 8 * 40 := Nat.mul_le_mul b1 (by omega)
          rw [if_pos (by rw [xn_lt (by omega) (by omega)]; omega), xn_add, gm236 P' (by omega), e89', xr_cI_s, fin k (by omega)]
          simp (disch := omega) only [xn_lt, Bool.cond_decide]
        · unfold gbnd
          cases hf : xfst (fun k => decide (n < gclaim nq du dy g (k + 1))) 40 0 with
          | some B => rfl
          | none =>
            refine (xg237_56 _ _ _ _ _ _).trans ?_
            rw [if_neg (by rw [xn_lt (by omega) (by omega)]; omega), fin 40 (by omega)]
            rfl
    · refine Or.inr (Or.inr ⟨by omega, qNo_of (nI 0) (by omega) ?_ (fun T hT => ?_)⟩)
      · rw [xe130]; simp (disch := omega) only [xi_t, xn_k, xn_lt, xn_eq, xn_mul, xn_add, xn_sub, xn_dec, xn_m1, xn_1m, if_pos, if_neg, if_true, if_false, cond_true, cond_false, true_and, and_true, false_and, and_false, xr_cI_s, xr_cV_s, xr_cI_e, xr_cV_e, xm_xs, xs_xs, p1, qc140y hpq, qc141n (by omega) (by omega) q2]
      · rw [xe237]; have e0 : xm (xs T (xw (xm T) 0 69 0 (nI 0))) 0 69 0 = nI 0 := (by rw [xm_xs, xw_y (by omega)]); have f1 : xm (xs T (xw (xm T) 0 69 0 (nI 0))) 0 73 1 = nI nq := (by rw [xm_xs, xw_n (by omega), hT, xw_n (by omega)]; exact m1)
        simp (disch := omega) only [xi_t, xn_k, xn_lt, xn_eq, xn_mul, xn_add, xn_sub, xn_dec, xn_m1, xn_1m, if_pos, if_neg, if_true, if_false, cond_true, cond_false, true_and, and_true, false_and, and_false, xr_cI_s, xr_cV_s, xr_cI_e, xr_cV_e, xm_xs, xs_xs, qm218y hpq (by omega) f1, qm152n (by omega) (by omega) q2, qm151f _ _ e0, qm151t (t := 2) (r := 1) (by omega) (by omega) (by omega) e0]
  · refine Or.inr (Or.inl ⟨by omega, qNo_of (nI 0) (by omega) ?_ (fun T hT => ?_)⟩)
    · rw [xe130]; simp (disch := omega) only [xi_t, xn_k, xn_lt, xn_eq, xn_mul, xn_add, xn_sub, xn_dec, xn_m1, xn_1m, if_pos, if_neg, if_true, if_false, cond_true, cond_false, true_and, and_true, false_and, and_false, xr_cI_s, xr_cV_s, xr_cI_e, xr_cV_e, xm_xs, xs_xs, p1, qc140n (by omega) q]
    · rw [xe237]; have e0 : xm (xs T (xw (xm T) 0 69 0 (nI 0))) 0 69 0 = nI 0 := (by rw [xm_xs, xw_y (by omega)]); have f1 : xm (xs T (xw (xm T) 0 69 0 (nI 0))) 0 73 1 = nI nq := (by rw [xm_xs, xw_n (by omega), hT, xw_n (by omega)]; exact m1)
      simp (disch := omega) only [xi_t, xn_k, xn_lt, xn_eq, xn_mul, xn_add, xn_sub, xn_dec, xn_m1, xn_1m, if_pos, if_neg, if_true, if_false, cond_true, cond_false, true_and, and_true, false_and, and_false, xr_cI_s, xr_cV_s, xr_cI_e, xr_cV_e, xm_xs, xs_xs, qm218n (by omega) f1 q, qm151t (t := 1) (r := 0) (by omega) (by omega) (by omega) e0]
theorem q_struck (I : xIq (xm S) np nq ch st du pl dy dp sz kd gv g h s ln ti fl) : qRes d 128 233 [] S 0 0 := by
  obtain ⟨P, ⟨Lc, Lm, Lv⟩, ⟨e89, G, W⟩, ⟨Hc, Hm, HI⟩, To⟩ := id I; obtain ⟨⟨p0, p1, p2, p3⟩, ⟨m0, m1, m2, m3⟩, ⟨b0, b1, b2, b3, b4⟩, hp, hd⟩ := id P
  refine Or.inl ⟨xfo (fun k b => b + (if nI 0 < gnet np nq du g (nI k) then gnet np nq du g (nI k) else nI 0)) np (nI 0), qOk_of ?_ ?_⟩
  · rw [xe128]
    refine (xl_acc (fun k b => xr_Run (d + 59) 128 4 [xP 0 0, xI b, xI (nI k)] [] xMd S) (fun k b => b + (if nI 0 < gnet np nq du g (nI k) then gnet np nq du g (nI k) else nI 0)) (n := np) (nI 0) (fun k b hk => ?_)).trans ?_
    · refine (xg128_4 _ _ _ _).trans ?_
      simp (disch := omega) only [xi_t, xn_k, xn_lt, xn_eq, xn_mul, xn_add, xn_sub, xn_dec, xn_m1, xn_1m, if_pos, if_neg, if_true, if_false, cond_true, cond_false, true_and, and_true, false_and, and_false, xr_cI_s, xr_cV_s, xr_cI_e, xr_cV_e, xm_xs, xs_xs, p0, gc21 (Or.inl rfl) P G]
    · refine (xg128_4 _ _ _ _).trans ?_
      simp (disch := omega) only [xi_t, xn_k, xn_lt, xn_eq, xn_mul, xn_add, xn_sub, xn_dec, xn_m1, xn_1m, if_pos, if_neg, if_true, if_false, cond_true, cond_false, true_and, and_true, false_and, and_false, xr_cI_s, xr_cV_s, xr_cI_e, xr_cV_e, xm_xs, xs_xs, p0]
  · rw [xe233]; obtain ⟨T, hT, e0, I'⟩ := xT_ex I; rw [← hT]; obtain ⟨P', ⟨Lc', Lm', Lv'⟩, ⟨e89', G', W'⟩, ⟨Hc', Hm', HI'⟩, To'⟩ := id I'; obtain ⟨⟨p0', p1', p2', p3'⟩, ⟨m0', m1', m2', m3'⟩, ⟨b0', b1', b2', b3', b4'⟩, hp', hd'⟩ := id P'
    refine (xl_acc (fun k b => xr_Run (d + 59) 233 9 [xP 0 69, xI b, xI (nI k)] [] xMd T) (fun k b => b + (if nI 0 < gnet np nq du g (nI k) then gnet np nq du g (nI k) else nI 0)) (n := np) (nI 0) (fun k b hk => ?_)).trans ?_
    · refine (xg233_9 _ _ _ _ _).trans ?_
      simp (disch := omega) only [xi_t, xn_k, xn_lt, xn_eq, xn_mul, xn_add, xn_sub, xn_dec, xn_m1, xn_1m, if_pos, if_neg, if_true, if_false, cond_true, cond_false, true_and, and_true, false_and, and_false, xr_cI_s, xr_cV_s, xr_cI_e, xr_cV_e, xm_xs, xs_xs, m0', gm231 P', e89', xe154]
      generalize gnet np nq du g (nI k) = z
      by_cases q : z < nI 0
      · have q2 : ¬ nI 0 < z := by rw [Int32.lt_iff_toInt_lt] at q ⊢; omega
        rw [if_pos q, if_neg q2, xr_cI_s]
      · rw [if_neg q, xr_cI_s]
        by_cases q2 : nI 0 < z
        · rw [if_pos q2]
        · rw [if_neg q2]
          rw [Int32.lt_iff_toInt_lt] at q q2
          rw [Int32.toInt_inj.mp (by omega : z.toInt = (nI 0).toInt)]
    · refine (xg233_9 _ _ _ _ _).trans ?_
      simp (disch := omega) only [xi_t, xn_k, xn_lt, xn_eq, xn_mul, xn_add, xn_sub, xn_dec, xn_m1, xn_1m, if_pos, if_neg, if_true, if_false, cond_true, cond_false, true_and, and_true, false_and, and_false, xr_cI_s, xr_cV_s, xr_cI_e, xr_cV_e, xm_xs, xs_xs, m0']
end
