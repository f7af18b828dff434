/-! QUESTIONS, 10: order, mean -/
theorem xn_mod {x y : Nat} (hx : x < 2147483648) (hy0 : 0 < y) (hy : y < 2147483648) : nI x - nI x / nI y * nI y = nI (x % y) := by
  have h1 : x / y * y ≤ x := Nat.div_mul_le_self x y
  rw [xn_div hx hy0 hy, xn_mul, xn_sub h1, Nat.mod_eq_sub_div_mul]
theorem xn_nz {y : Nat} (hy0 : 0 < y) (hy : y < 2147483648) : ¬ nI y = 0 := fun h => by
  rw [← nI_0, xn_eq hy (by omega)] at h; omega
theorem mod_half {y r : Nat} (hr : 0 < r) (hry : r < y) : 2 * (y % r) < y := by
  by_cases q : 2 * r ≤ y
  · have := Nat.mod_lt y hr
    omega
  · rw [Nat.mod_eq_sub_mod (by omega), Nat.mod_eq_of_lt (by omega)]
    omega
section
variable {d : Nat} {w : List Nat} {S : xr_S} {np nq ch st : Nat} {du pl : Nat → Nat} {dy : Nat → Int32} {dp : Nat → Nat → Nat} {sz : Nat} {kd : Nat → Nat} {gv g : Nat → Int32} {h : Nat → Nat} {s : Nat → Nat → Int32} {ln : Nat} {ti : Nat → Nat} {fl : Nat → Option Nat}
theorem ec147 (a b : Int32) : ∀ (n x y k : Nat) (v : xr_V), y < 2 ^ n → n ≤ 20 → k + 2 * n ≤ 100 → x < 100000000 → xr_Run d 147 7 [xI a, xI b, xI (nI x), xI (nI y), xI (nI k), v] [] xMd S = some (.inl (some (nI (Nat.gcd x y))), xMd, S) := by
  intro n
  induction n with
  | zero =>
    intro x y k v hy hn hk hx
    have hy : y = 0 := by
      rw [Nat.pow_zero] at hy; omega
    subst hy
    refine (xg147_7 _ _ _ _ _ _ _ _).trans ?_
    rw [if_pos (by rw [xn_lt (by omega) (by omega)]; omega), if_pos rfl, Nat.gcd_zero_right]
  | succ n ih =>
    intro x y k v hy hn hk hx
    have h20 : 2 ^ (n + 1) ≤ 2 ^ 20 := Nat.pow_le_pow_right (by omega) hn
    have e20 : 2 ^ 20 = 1048576 := by decide
    refine (xg147_7 _ _ _ _ _ _ _ _).trans ?_
    rw [if_pos (by rw [xn_lt (by omega) (by omega)]; omega)]
    by_cases q : y = 0
    · subst q
      rw [if_pos rfl, Nat.gcd_zero_right]
    · rw [if_neg (by rw [xn_eq (by omega) (by omega)]; exact q), if_neg (xn_nz (by omega) (by omega)), xn_mod (by omega) (by omega) (by omega), xn_add]
      refine (xg147_7 _ _ _ _ _ _ _ _).trans ?_
      rw [if_pos (by rw [xn_lt (by omega) (by omega)]; omega)]
      have hm := Nat.mod_lt x (show 0 < y by omega)
      have g1 : Nat.gcd x y = Nat.gcd y (x % y) := by rw [Nat.gcd_comm x y, Nat.gcd_rec y x, Nat.gcd_comm]
      by_cases q2 : x % y = 0
      · rw [q2, if_pos rfl, g1, q2, Nat.gcd_zero_right]
      · rw [if_neg (by rw [xn_eq (by omega) (by omega)]; exact q2), if_neg (xn_nz (by omega) (by omega)), xn_mod (by omega) (by omega) (by omega), xn_add]
        have hh := mod_half (y := y) (r := x % y) (by omega) hm
        rw [ih (x % y) (y % (x % y)) (k + 1 + 1) _ (by rw [Nat.pow_succ] at hy; omega) (by omega) (by omega) (by omega)]
        rw [g1, Nat.gcd_comm y (x % y), Nat.gcd_rec (x % y) y, Nat.gcd_comm]
theorem em246 (a b c e f : Int32) (up low : Nat) (hu : up < 100000000) (hl : low < 100000000) : ∀ (y x : Nat) (v : xr_V), y < 100000000 → x < 100000000 → 0 < Nat.gcd x y → xr_Run d 246 115 [xP 0 69, xI a, xI (nI up), xI (nI low), xI c, xI e, xI (nI x), xI (nI y), v] [] ([], w) S = some (.inl (some (if a = nI 0 then nI (up / Nat.gcd x y) else nI (low / Nat.gcd x y))), ([], w), S) := by
  intro y
  induction y using Nat.strongRecOn with
  | _ y ih =>
    intro x v hy hx hg
    refine (xg246_115 _ _ _ _ _ _ _ _ _ _ _).trans ?_
    by_cases q : y = 0
    · subst q
      rw [Nat.gcd_zero_right] at hg ⊢
      rw [if_pos rfl, if_neg (xn_nz (by omega) (by omega)), if_neg (xn_nz (by omega) (by omega)), xn_div (by omega) (by omega) (by omega), xn_div (by omega) (by omega) (by omega)]
      split <;> rfl
    · rw [if_neg (by rw [xn_eq (by omega) (by omega)]; exact q), if_neg (xn_nz (by omega) (by omega)), xn_mod (by omega) (by omega) (by omega)]
      have hm := Nat.mod_lt x (show 0 < y by omega)
      have g1 : Nat.gcd x y = Nat.gcd y (x % y) := by rw [Nat.gcd_comm x y, Nat.gcd_rec y x, Nat.gcd_comm]
      rw [g1] at hg ⊢
      exact ih (x % y) hm y _ (by omega) hy hg
theorem q_order (I : xIq (xm S) np nq ch st du pl dy dp sz kd gv g h s ln ti fl) : qRes d 120 245 [] S 0 0 := by
  obtain ⟨P, ⟨Lc, Lm, Lv⟩, ⟨e89, G, W⟩, ⟨Hc, Hm, HI⟩, To⟩ := id I; obtain ⟨⟨p0, p1, p2, p3⟩, ⟨m0, m1, m2, m3⟩, ⟨b0, b1, b2, b3, b4⟩, hp, hd⟩ := id P
  have B := hG_B (hI_G HI)
  have ln8 := rkv_len (h := h) 80
  rw [show rkv h 80 = hL h from rfl] at ln8
  obtain ⟨M2, r2, c2, F2⟩ := om244 (d := d + 57) (w := [35, 44, 53, 58, 63, 66]) (S := xs S (xw (xm S) 0 69 0 (nI 0))) (h := h) (s := s) (by rw [xm_xs, xw_r (by omega), e89]; exact Hm) B
  rw [xs_xs] at r2
  rw [xm_xs] at F2
  refine Or.inl ⟨nI (rdg 0 (hL h)), xm S, M2, ?_, ?_, ?_, fun b e h => ?_, fun j h1 h2 => ?_⟩
  · have lp : ∀ (C A : List Nat) (t : Nat) (dug : Int32) (u : xr_V), hL h = A ++ C → (∀ x, x < 8 → (xbt dug x = true ↔ x ∈ A)) → xr_Run (d + 59) 120 6 [xP 0 0, xI (nI t), xI dug, xI (nI A.length), u] [] xMd S = some (.inl (some (nI (rdg t C))), xMd, S) := by
      intro C
      induction C with
      | nil =>
        intro A t dug u e hD
        rw [List.append_nil] at e
        refine (xg120_6 _ _ _ _ _ _).trans ?_
        rw [oc41 (Or.inl rfl) Hc B, hbst_end (xhB_le (by omega) B) (fun x hx => by rw [e]; exact hD x hx)]
        simp only [xr_cI_s, oI, rdg, if_true]
        split <;> rfl
      | cons b C ih =>
        intro A t dug u e hD
        rw [e, List.length_append, List.length_cons] at ln8
        have hb : b < 8 := ((rkv_mem (h := h) 80 b).mp (by rw [show rkv h 80 = hL h from rfl, e]; simp)).1
        refine (xg120_6 _ _ _ _ _ _).trans ?_
        rw [oc41 (Or.inl rfl) Hc B, hbst_next (xhB_le (by omega) B) e hD]
        simp (disch := omega) only [xi_t, xn_k, xn_lt, xn_eq, xn_mul, xn_add, xn_sub, xn_dec, xn_m1, xn_1m, if_pos, if_neg, if_true, if_false, cond_true, cond_false, true_and, and_true, false_and, and_false, xr_cI_s, xr_cV_s, xr_cI_e, xr_cV_e, xm_xs, xs_xs, oI]
        have := ih (A ++ [b]) (10 * t + b + 1) (dug ||| (nI 1 <<< (nI b &&& 31))) (xI (nI b)) (by rw [e]; simp) (fun x hx => by
          rw [xbt_or (by omega) (by omega), Bool.or_eq_true, hD x hx, decide_eq_true_eq]
          simp)
        rw [List.length_append, List.length_singleton] at this
        rw [Nat.mul_comm t 10]
        exact this
    rw [xe120, xs_xm]
    exact lp (hL h) [] 0 (nI 0) xU rfl (fun x _ => by rw [xbt_0]; simp)
  · rw [xe245, xs_xm, r2, xr_cI_s]
    have L := xl_acc (fun i (t : Nat) => xr_Run (d + 59) 245 14 [xP 0 69, xI (nI t), xI (nI (hL h).length), xI (nI i)] [] xMd (xs S M2)) (fun i t => t * 10 + (hL h).getD i 0 + 1) (n := (hL h).length) 0 (fun i t hi => by
      refine (xg245_14 _ _ _ _ _ _).trans ?_
      simp (disch := omega) only [xi_t, xn_k, xn_lt, xn_mul, xn_add, if_pos, cond_true, xm_xs, c2 i hi]
      rw [Nat.mul_comm 10 t])
    refine L.trans ?_
    refine (xg245_14 _ _ _ _ _ _).trans ?_
    rw [if_neg (by rw [xn_lt (by omega) (by omega)]; omega), rdg_fo]
  · rw [F2 0 69 (by omega), xw_y (by omega)]
  · rw [F2 b e (by omega), xw_r (by omega)]
  · rw [F2 0 69 (by omega), xw_n (by omega)]
theorem q_mean (I : xIq (xm S) np nq ch st du pl dy dp sz kd gv g h s ln ti fl) (a : Int32) : qRes d 121 246 [xI a] S 0 1 := by
  obtain ⟨P, ⟨Lc, Lm, Lv⟩, ⟨e89, G, W⟩, ⟨Hc, Hm, HI⟩, To⟩ := id I; obtain ⟨⟨p0, p1, p2, p3⟩, ⟨m0, m1, m2, m3⟩, ⟨b0, b1, b2, b3, b4⟩, hp, hd⟩ := id P
  have B := hG_B (hI_G HI)
  have ln8 := rkv_len (h := h) 80
  rw [show rkv h 80 = hL h from rfl] at ln8
  by_cases q : xrg a 0 1
  · obtain ⟨k, _, hk, rfl⟩ := q
    have mem : ∀ x, x ∈ hL h ↔ x < 8 ∧ 0 < h x ∧ h x ≤ 80 := fun x => rkv_mem 80 x
    obtain ⟨w1, w2, w3, w4⟩ := wall_b (h := h) B (hL h) (0, 0, 0) (fun b hb => ((mem b).mp hb).1) (by simp)
    have sg : ((hL h).map h).sum = xsN h 8 := by
      unfold hL
      rw [rkv_sum]
      refine xsN_congr 8 (fun x hx => ?_)
      have := B x hx
      by_cases q0 : 0 < h x
      · rw [decide_eq_true (by omega)]; rfl
      · rw [decide_eq_false (by omega), show h x = 0 by omega]; rfl
    have sl : ((hL h).map (fun b => h b * (h b + 1) / 2)).sum = xsN (fun x => h x * (h x + 1) / 2) 8 := by
      unfold hL
      rw [rkv_sum]
      refine xsN_congr 8 (fun x hx => ?_)
      have := B x hx
      by_cases q0 : 0 < h x
      · rw [decide_eq_true (by omega)]; rfl
      · rw [decide_eq_false (by omega), show h x = 0 by omega]; rfl
    have T80 := (hI_G HI).2
    dsimp only at w2 w3 w4
    rw [sg, Nat.zero_add] at w2
    rw [sl, Nat.zero_add] at w3
    have hd80 : (wall h (hL h) (0, 0, 0)).2.2 * (wall h (hL h) (0, 0, 0)).2.2 ≤ 80 * 80 := Nat.mul_le_mul (by omega) (by omega)
    have hlow : xsN (fun x => h x * (h x + 1) / 2) 8 ≤ 8 * 1035 := xsN_le 8 (fun x hx => by
      have := B x hx
      have : h x * (h x + 1) ≤ 45 * 46 := Nat.mul_le_mul this (by omega)
      omega)
    have w4 := w4 (Nat.le_refl _)
    obtain ⟨M2, r2, c2, F2⟩ := om244 (d := d + 57) (w := [35, 44, 53, 58, 63, 66]) (S := xs S (xw (xm S) 0 69 0 (nI 0))) (h := h) (s := s) (by rw [xm_xs, xw_r (by omega), e89]; exact Hm) B
    rw [xs_xs] at r2
    rw [xm_xs] at F2
    have nil : xsN (fun x => h x * (h x + 1) / 2) 8 = 0 ↔ hL h = [] := by
      constructor
      · intro q0
        apply List.eq_nil_iff_forall_not_mem.mpr
        intro x hx
        obtain ⟨h1, h2, h3⟩ := (mem x).mp hx
        have := xsN_mem (g := fun x => h x * (h x + 1) / 2) (x := x) 8 h1
        have : 1 * 2 ≤ h x * (h x + 1) := Nat.mul_le_mul h2 (by omega)
        omega
      · intro q0
        rw [← sl, q0]; rfl
    generalize hup : (wall h (hL h) (0, 0, 0)).1 = up at *
    generalize hlo : xsN (fun x => h x * (h x + 1) / 2) 8 = low at *
    refine Or.inl ⟨if low = 0 then nI k else if k = 0 then nI (up / Nat.gcd up low) else nI (low / Nat.gcd up low), xm S, M2, ?_, ?_, ?_, fun b e h => ?_, fun j h1 h2 => ?_⟩
    · rw [xe121, xs_xm, qc141y (Nat.zero_le k) hk (by omega), xr_cV_s, oc42 (Or.inl rfl) Hc B, xr_cI_s, oc43 (Or.inl rfl) Hc B, xr_cI_s, hup, hlo, xe147, ec147 _ _ 14 up low 0 _ (by omega) (by omega) (by omega) (by omega), xr_cI_s]
      by_cases q0 : low = 0
      · rw [if_pos (by rw [q0]), if_pos q0]
      · have hg := Nat.gcd_pos_of_pos_right up (show 0 < low by omega)
        have hgl := Nat.gcd_le_right up (show 0 < low by omega)
        rw [if_neg (by rw [xn_eq (by omega) (by omega)]; exact q0), if_neg (by rw [xn_eq (by omega) (by omega)]; omega), if_neg q0]
        rw [if_neg (xn_nz (by omega) (by omega)), if_neg (xn_nz (by omega) (by omega)), xn_div (by omega) (by omega) (by omega), xn_div (by omega) (by omega) (by omega)]
        simp (disch := omega) only [xn_eq]
        split <;> rfl
    · rw [xe246, xs_xm]
      have e0 : xm (xs S (xw (xm S) 0 69 0 (nI 0))) 0 69 0 = nI 0 := by rw [xm_xs, xw_y (by omega)]
      rw [qm152y (Nat.zero_le k) hk (by omega), xr_cI_s, if_neg (by rw [xn_eq (by omega) (by omega)]; omega), qm151f _ _ e0, xr_cI_s, if_pos rfl, r2, xr_cI_s]
      have H' : xhM (xm (xs S M2) 0 89) h s := by rw [xm_xs, F2 0 89 (by omega), xw_r (by omega), e89]; exact Hm
      have lw : ∀ (v : Nat) (t : Nat × Nat × Nat) (i : Nat), v ≤ 45 → xr_Run (d + 59) 246 69 [xP 0 69, xI (nI k), xI (nI t.1), xI (nI t.2.1), xI (nI t.2.2), xI (nI (hL h).length), xI (nI i), xI (nI v), xU] [] xMd (xs S M2) = xr_Run (d + 59) 246 46 [xP 0 69, xI (nI k), xI (nI (wg v t).1), xI (nI (wg v t).2.1), xI (nI (wg v t).2.2), xI (nI (hL h).length), xI (nI (i + 1)), xI (nI 0), xU] [] xMd (xs S M2) := by
        intro v
        induction v with
        | zero =>
          intro t i _
          refine (xg246_69 _ _ _ _ _ _ _ _ _ _).trans ?_
          rw [if_neg (by rw [xn_lt (by omega) (by omega)]; omega), xn_add]
          rfl
        | succ v ih =>
          intro t i hv
          refine (xg246_69 _ _ _ _ _ _ _ _ _ _).trans ?_
          rw [wg, ← ih _ i (by omega)]
          simp (disch := omega) only [xn_lt, xn_add, xn_mul, xn_dec, if_pos, Nat.add_sub_cancel]
          rw [Nat.mul_comm (t.2.2 + 1)]
      have lp : ∀ (C A : List Nat) (t : Nat × Nat × Nat) (u : xr_V), hL h = A ++ C → ∃ u', xr_Run (d + 59) 246 46 [xP 0 69, xI (nI k), xI (nI t.1), xI (nI t.2.1), xI (nI t.2.2), xI (nI (hL h).length), xI (nI A.length), u, xU] [] xMd (xs S M2) = xr_Run (d + 59) 246 46 [xP 0 69, xI (nI k), xI (nI (wall h C t).1), xI (nI (wall h C t).2.1), xI (nI (wall h C t).2.2), xI (nI (hL h).length), xI (nI (hL h).length), u', xU] [] xMd (xs S M2) := by
        intro C
        induction C with
        | nil =>
          intro A t u e
          refine ⟨u, ?_⟩
          rw [List.append_nil] at e
          rw [e]; rfl
        | cons b C ih =>
          intro A t u e
          have hb : b < 8 := ((mem b).mp (by rw [e]; simp)).1
          obtain ⟨u', r'⟩ := ih (A ++ [b]) (wg (h b) t) (xI (nI 0)) (by rw [e]; simp)
          refine ⟨u', ?_⟩
          rw [wall, ← r']
          refine (xg246_46 _ _ _ _ _ _ _ _ _ _).trans ?_
          have hA : A.length < (hL h).length := by rw [e]; simp
          have eb : M2 0 93 A.length = nI b := by
            rw [c2 _ hA, e]
            simp [List.getD]
          have r3 := hm192 (d := d + 58) (w := [35, 44, 53, 58, 63, 66]) (S := xs S M2) (Or.inl rfl) H' hb
          rw [if_pos (by rw [xn_lt (by omega) (by omega)]; exact hA), xi_t (by omega) (by omega), xm_xs, xn_k (by omega), eb, r3, xr_cI_s, lw _ t _ (B b hb), List.length_append, List.length_singleton]
          rfl
      obtain ⟨u', r3⟩ := lp (hL h) [] (0, 0, 0) xU rfl
      refine Eq.trans ?_ (r3.trans ?_)
      · rfl
      · refine (xg246_46 _ _ _ _ _ _ _ _ _ _).trans ?_
        rw [if_neg (by rw [xn_lt (by omega) (by omega)]; omega), hup, w3]
        by_cases q0 : low = 0
        · have := nil.mp q0
          rw [if_pos (by rw [this]; rfl), if_pos q0]
        · have hln : ¬ (hL h).length = 0 := fun q1 => q0 (nil.mpr (List.eq_nil_of_length_eq_zero q1))
          rw [if_neg (by rw [xn_eq (by omega) (by omega)]; exact hln), if_neg q0]
          have hg := Nat.gcd_pos_of_pos_left up (show 0 < low by omega)
          rw [em246 _ (nI 0) _ _ (nI 0) up low (by omega) (by omega) up low _ (by omega) (by omega) hg, Nat.gcd_comm low up]
          simp (disch := omega) only [xn_eq]
    · rw [F2 0 69 (by omega), xw_y (by omega)]
    · rw [F2 b e (by omega), xw_r (by omega)]
    · rw [F2 0 69 (by omega), xw_n (by omega)]
  · refine Or.inr (Or.inr ⟨by omega, qNo_of (nI 0) (by omega) ?_ (fun T hT => ?_)⟩)
    · rw [xe121]; simp (disch := omega) only [xi_t, xn_k, xn_lt, xn_eq, xn_mul, xn_add, xn_sub, xn_dec, xn_m1, xn_1m, if_pos, if_neg, if_true, if_false, cond_true, cond_false, true_and, and_true, false_and, and_false, xr_cI_s, xr_cV_s, xr_cI_e, xr_cV_e, xm_xs, xs_xs, qc141n (by omega) (by omega) q]
    · rw [xe246]; have e0 : xm (xs T (xw (xm T) 0 69 0 (nI 0))) 0 69 0 = nI 0 := (by rw [xm_xs, xw_y (by omega)])
      simp (disch := omega) only [xi_t, xn_k, xn_lt, xn_eq, xn_mul, xn_add, xn_sub, xn_dec, xn_m1, xn_1m, if_pos, if_neg, if_true, if_false, cond_true, cond_false, true_and, and_true, false_and, and_false, xr_cI_s, xr_cV_s, xr_cI_e, xr_cV_e, xm_xs, xs_xs, qm152n (by omega) (by omega) q, qm151t (t := 1) (r := 1) (by omega) (by omega) (by omega) e0]
end
