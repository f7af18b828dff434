/-! QUESTIONS, 3: fills, holds, deep, easiest -/
def xfl (M : xr_M) (b c n : Nat) (v : Int32) : xr_M := fun b' c' k' => if b' = b ∧ c' = c ∧ k' < n then v else M b' c' k'
theorem xfl_0 (M : xr_M) (b c : Nat) (v : Int32) : xfl M b c 0 v = M := by
  funext b' c' k'; exact if_neg (by omega)
theorem xfl_s (M : xr_M) (b c n : Nat) (v : Int32) : xw (xfl M b c n v) b c n v = xfl M b c (n + 1) v := by
  funext b' c' k'
  unfold xw xfl
  by_cases q : b' = b ∧ c' = c ∧ k' = n
  · rw [if_pos q, if_pos (by omega)]
  · rw [if_neg q]
    by_cases q2 : b' = b ∧ c' = c ∧ k' < n
    · rw [if_pos q2, if_pos (by omega)]
    · rw [if_neg q2, if_neg (by omega)]
theorem xfl_r {M : xr_M} {b c n : Nat} {v : Int32} {b' c' : Nat} (h : ¬ (b' = b ∧ c' = c)) : xfl M b c n v b' c' = M b' c' := by
  funext j; exact if_neg (by omega)
theorem xfl_y {M : xr_M} {b c n : Nat} {v : Int32} {k : Nat} (h : k < n) : xfl M b c n v b c k = v := if_pos ⟨rfl, rfl, h⟩
section
variable {d : Nat} {w : List Nat} {S : xr_S}
theorem fl280_51 (v : Int32) : xr_Call (d + 1) 280 [xP 0 51, xI v] ([], w) S = some (.inl none, ([], w), xs S (xfl (xm S) 0 51 48 v)) := by
  rw [xe28051]
  have L := xl_up (T := fun k => xr_Run d 280 5 [xP 0 51, xI v, xI (nI k), xI (nI 48)] [] ([], w) (xs S (xfl (xm S) 0 51 k v))) (n := 48) (fun k hk => by
    refine (xg28051_5 _ _ _ _ _ _).trans ?_
    simp (disch := omega) only [xi_t, xn_k, xn_lt, xn_eq, xn_mul, xn_add, xn_sub, xn_dec, xn_m1, xn_1m, if_pos, if_neg, if_true, if_false, cond_true, cond_false, true_and, and_true, false_and, and_false, xr_cI_s, xr_cV_s, xr_cI_e, xr_cV_e, xm_xs, xs_xs, xfl_s])
  rw [xfl_0, xs_xm] at L
  refine L.trans ?_
  refine (xg28051_5 _ _ _ _ _ _).trans ?_
  simp (disch := omega) only [xi_t, xn_k, xn_lt, xn_eq, xn_mul, xn_add, xn_sub, xn_dec, xn_m1, xn_1m, if_pos, if_neg, if_true, if_false, cond_true, cond_false, true_and, and_true, false_and, and_false, xr_cI_s, xr_cV_s, xr_cI_e, xr_cV_e, xm_xs, xs_xs]
theorem fl280_52 (v : Int32) : xr_Call (d + 1) 280 [xP 0 52, xI v] ([], w) S = some (.inl none, ([], w), xs S (xfl (xm S) 0 52 8 v)) := by
  rw [xe28052]
  have L := xl_up (T := fun k => xr_Run d 280 5 [xP 0 52, xI v, xI (nI k), xI (nI 8)] [] ([], w) (xs S (xfl (xm S) 0 52 k v))) (n := 8) (fun k hk => by
    refine (xg28052_5 _ _ _ _ _ _).trans ?_
    simp (disch := omega) only [xi_t, xn_k, xn_lt, xn_eq, xn_mul, xn_add, xn_sub, xn_dec, xn_m1, xn_1m, if_pos, if_neg, if_true, if_false, cond_true, cond_false, true_and, and_true, false_and, and_false, xr_cI_s, xr_cV_s, xr_cI_e, xr_cV_e, xm_xs, xs_xs, xfl_s])
  rw [xfl_0, xs_xm] at L
  refine L.trans ?_
  refine (xg28052_5 _ _ _ _ _ _).trans ?_
  simp (disch := omega) only [xi_t, xn_k, xn_lt, xn_eq, xn_mul, xn_add, xn_sub, xn_dec, xn_m1, xn_1m, if_pos, if_neg, if_true, if_false, cond_true, cond_false, true_and, and_true, false_and, and_false, xr_cI_s, xr_cV_s, xr_cI_e, xr_cV_e, xm_xs, xs_xs]
theorem fl280_5 (v : Int32) : xr_Call (d + 1) 280 [xP 0 5, xI v] ([], w) S = some (.inl none, ([], w), xs S (xfl (xm S) 0 5 8 v)) := by
  rw [xe2805]
  have L := xl_up (T := fun k => xr_Run d 280 5 [xP 0 5, xI v, xI (nI k), xI (nI 8)] [] ([], w) (xs S (xfl (xm S) 0 5 k v))) (n := 8) (fun k hk => by
    refine (xg2805_5 _ _ _ _ _ _).trans ?_
    simp (disch := omega) only [xi_t, xn_k, xn_lt, xn_eq, xn_mul, xn_add, xn_sub, xn_dec, xn_m1, xn_1m, if_pos, if_neg, if_true, if_false, cond_true, cond_false, true_and, and_true, false_and, and_false, xr_cI_s, xr_cV_s, xr_cI_e, xr_cV_e, xm_xs, xs_xs, xfl_s])
  rw [xfl_0, xs_xm] at L
  refine L.trans ?_
  refine (xg2805_5 _ _ _ _ _ _).trans ?_
  simp (disch := omega) only [xi_t, xn_k, xn_lt, xn_eq, xn_mul, xn_add, xn_sub, xn_dec, xn_m1, xn_1m, if_pos, if_neg, if_true, if_false, cond_true, cond_false, true_and, and_true, false_and, and_false, xr_cI_s, xr_cV_s, xr_cI_e, xr_cV_e, xm_xs, xs_xs]
theorem fl280_7 (v : Int32) : xr_Call (d + 1) 280 [xP 0 7, xI v] ([], w) S = some (.inl none, ([], w), xs S (xfl (xm S) 0 7 16 v)) := by
  rw [xe2807]
  have L := xl_up (T := fun k => xr_Run d 280 5 [xP 0 7, xI v, xI (nI k), xI (nI 16)] [] ([], w) (xs S (xfl (xm S) 0 7 k v))) (n := 16) (fun k hk => by
    refine (xg2807_5 _ _ _ _ _ _).trans ?_
    simp (disch := omega) only [xi_t, xn_k, xn_lt, xn_eq, xn_mul, xn_add, xn_sub, xn_dec, xn_m1, xn_1m, if_pos, if_neg, if_true, if_false, cond_true, cond_false, true_and, and_true, false_and, and_false, xr_cI_s, xr_cV_s, xr_cI_e, xr_cV_e, xm_xs, xs_xs, xfl_s])
  rw [xfl_0, xs_xm] at L
  refine L.trans ?_
  refine (xg2807_5 _ _ _ _ _ _).trans ?_
  simp (disch := omega) only [xi_t, xn_k, xn_lt, xn_eq, xn_mul, xn_add, xn_sub, xn_dec, xn_m1, xn_1m, if_pos, if_neg, if_true, if_false, cond_true, cond_false, true_and, and_true, false_and, and_false, xr_cI_s, xr_cV_s, xr_cI_e, xr_cV_e, xm_xs, xs_xs]
theorem fl280_64 (v : Int32) : xr_Call (d + 1) 280 [xP 0 64, xI v] ([], w) S = some (.inl none, ([], w), xs S (xfl (xm S) 0 64 6 v)) := by
  rw [xe28064]
  have L := xl_up (T := fun k => xr_Run d 280 5 [xP 0 64, xI v, xI (nI k), xI (nI 6)] [] ([], w) (xs S (xfl (xm S) 0 64 k v))) (n := 6) (fun k hk => by
    refine (xg28064_5 _ _ _ _ _ _).trans ?_
    simp (disch := omega) only [xi_t, xn_k, xn_lt, xn_eq, xn_mul, xn_add, xn_sub, xn_dec, xn_m1, xn_1m, if_pos, if_neg, if_true, if_false, cond_true, cond_false, true_and, and_true, false_and, and_false, xr_cI_s, xr_cV_s, xr_cI_e, xr_cV_e, xm_xs, xs_xs, xfl_s])
  rw [xfl_0, xs_xm] at L
  refine L.trans ?_
  refine (xg28064_5 _ _ _ _ _ _).trans ?_
  simp (disch := omega) only [xi_t, xn_k, xn_lt, xn_eq, xn_mul, xn_add, xn_sub, xn_dec, xn_m1, xn_1m, if_pos, if_neg, if_true, if_false, cond_true, cond_false, true_and, and_true, false_and, and_false, xr_cI_s, xr_cV_s, xr_cI_e, xr_cV_e, xm_xs, xs_xs]
theorem fl280_67 (v : Int32) : xr_Call (d + 1) 280 [xP 0 67, xI v] ([], w) S = some (.inl none, ([], w), xs S (xfl (xm S) 0 67 6 v)) := by
  rw [xe28067]
  have L := xl_up (T := fun k => xr_Run d 280 5 [xP 0 67, xI v, xI (nI k), xI (nI 6)] [] ([], w) (xs S (xfl (xm S) 0 67 k v))) (n := 6) (fun k hk => by
    refine (xg28067_5 _ _ _ _ _ _).trans ?_
    simp (disch := omega) only [xi_t, xn_k, xn_lt, xn_eq, xn_mul, xn_add, xn_sub, xn_dec, xn_m1, xn_1m, if_pos, if_neg, if_true, if_false, cond_true, cond_false, true_and, and_true, false_and, and_false, xr_cI_s, xr_cV_s, xr_cI_e, xr_cV_e, xm_xs, xs_xs, xfl_s])
  rw [xfl_0, xs_xm] at L
  refine L.trans ?_
  refine (xg28067_5 _ _ _ _ _ _).trans ?_
  simp (disch := omega) only [xi_t, xn_k, xn_lt, xn_eq, xn_mul, xn_add, xn_sub, xn_dec, xn_m1, xn_1m, if_pos, if_neg, if_true, if_false, cond_true, cond_false, true_and, and_true, false_and, and_false, xr_cI_s, xr_cV_s, xr_cI_e, xr_cV_e, xm_xs, xs_xs]
theorem fl280_65 (v : Int32) : xr_Call (d + 1) 280 [xP 0 65, xI v] ([], w) S = some (.inl none, ([], w), xs S (xfl (xm S) 0 65 11 v)) := by
  rw [xe28065]
  have L := xl_up (T := fun k => xr_Run d 280 5 [xP 0 65, xI v, xI (nI k), xI (nI 11)] [] ([], w) (xs S (xfl (xm S) 0 65 k v))) (n := 11) (fun k hk => by
    refine (xg28065_5 _ _ _ _ _ _).trans ?_
    simp (disch := omega) only [xi_t, xn_k, xn_lt, xn_eq, xn_mul, xn_add, xn_sub, xn_dec, xn_m1, xn_1m, if_pos, if_neg, if_true, if_false, cond_true, cond_false, true_and, and_true, false_and, and_false, xr_cI_s, xr_cV_s, xr_cI_e, xr_cV_e, xm_xs, xs_xs, xfl_s])
  rw [xfl_0, xs_xm] at L
  refine L.trans ?_
  refine (xg28065_5 _ _ _ _ _ _).trans ?_
  simp (disch := omega) only [xi_t, xn_k, xn_lt, xn_eq, xn_mul, xn_add, xn_sub, xn_dec, xn_m1, xn_1m, if_pos, if_neg, if_true, if_false, cond_true, cond_false, true_and, and_true, false_and, and_false, xr_cI_s, xr_cV_s, xr_cI_e, xr_cV_e, xm_xs, xs_xs]
end
def gdeep (g : Nat → Int32) (a w n : Nat) : Nat := xfo (fun k b => if (w = 0 ∧ gN g (48 + 6 * a + (k + 1)) < gN g (48 + 6 * a + b)) ∨ (w = 1 ∧ gN g (48 + 6 * a + b) < gN g (48 + 6 * a + (k + 1))) then k + 1 else b) n 0
def geas1 (n : Option Nat) (b : Nat) (o : Option (Nat × Nat)) : Option (Nat × Nat) := match n with
  | none => o
  | some c => match o with
    | none => some (b, c)
    | some (b0, c0) => if c < c0 then some (b, c) else some (b0, c0)
def geasy (nq ch : Nat) (pl : Nat → Nat) (g : Nat → Int32) (a : Nat) : Option (Nat × Nat) := xfo (fun b o => geas1 (if b = a then none else if g (8 + b / 2) = nI 0 then gchips ch pl g a b else none) b o) (2 * nq) none
def oI1 (o : Option (Nat × Nat)) : Int32 := oI (o.map Prod.fst)
def oI2 (o : Option (Nat × Nat)) : Int32 := oI (o.map Prod.snd)
section
variable {d : Nat} {S : xr_S} {np nq ch st : Nat} {du pl : Nat → Nat} {dy : Nat → Int32} {dp : Nat → Nat → Nat} {sz : Nat} {kd : Nat → Nat} {gv g : Nat → Int32} {h : Nat → Nat} {s : Nat → Nat → Int32} {ln : Nat} {ti : Nat → Nat} {fl : Nat → Option Nat}
theorem q_holds (I : xIq (xm S) np nq ch st du pl dy dp sz kd gv g h s ln ti fl) (a b : Int32) : qRes d 131 225 [xI a, xI b] S 1 2 := by
  obtain ⟨P, ⟨Lc, Lm, Lv⟩, ⟨e89, G, W⟩, ⟨Hc, Hm, HI⟩, To⟩ := id I; obtain ⟨⟨p0, p1, p2, p3⟩, ⟨m0, m1, m2, m3⟩, ⟨b0, b1, b2, b3, b4⟩, hp, hd⟩ := id P
  by_cases q : xrl a np
  · obtain ⟨p, hpq, rfl⟩ := q
    by_cases q2 : xrg b 0 1
    · obtain ⟨k, _, hk, rfl⟩ := q2
      have mm : ∀ T, xIq (xm T) np nq ch st du pl dy dp sz kd gv g h s ln ti fl → xr_Run (d + 59) 225 60 [xP 0 69, xI (nI p), xI (nI k), xI (nI 0), xI (nI 0), xI (nI 0)] [] xMd T = some (.inl (some (if k = 0 then xfo (fun k b => if g (8 + k / 2) = nI 0 ∧ g (16 + k) = nI p then b ||| (nI 1 <<< (nI k &&& 31)) else b) (2 * nq) (nI 0) else xfo (fun k b => if ((xfo (fun k b => if g (8 + k / 2) = nI 0 ∧ g (16 + k) = nI p then b ||| (nI 1 <<< (nI k &&& 31)) else b) (2 * nq) (nI 0)) >>> (nI (2 * k) &&& 31)) &&& nI 3 = nI 3 then b ||| (nI 1 <<< (nI k &&& 31)) else b) nq (nI 0))), xMd, T) := fun T I' => by
        have m1 := I'.1.2.1.2.1
        have e9 := I'.2.2.1.1
        have z : ¬ nI 2 = 0 := by decide
        refine (xl_acc (fun j b => xr_Run (d + 59) 225 60 [xP 0 69, xI (nI p), xI (nI k), xI b, xI (nI 0), xI (nI j)] [] xMd T) (fun k b => if g (8 + k / 2) = nI 0 ∧ g (16 + k) = nI p then b ||| (nI 1 <<< (nI k &&& 31)) else b) (n := 2 * nq) (nI 0) (fun j b hj => ?_)).trans ?_
        · refine (xg225_60 _ _ _ _ _ _ _ _).trans ?_
          simp (disch := omega) only [z, xn_div, xi_t, xn_k, xn_lt, xn_eq, xn_mul, xn_add, xn_sub, xn_dec, xn_m1, xn_1m, if_pos, if_neg, if_true, if_false, cond_true, cond_false, true_and, and_true, false_and, and_false, xr_cI_s, xr_cV_s, xr_cI_e, xr_cV_e, xm_xs, xs_xs, m1, gm206 (Or.inl rfl), e9, xn_or0]
          unfold bI
          by_cases q3 : g (8 + j / 2) = nI 0
          · by_cases q4 : g (16 + j) = nI p <;> simp (disch := omega) only [xi_t, xn_k, xn_lt, xn_eq, xn_mul, xn_add, xn_sub, xn_dec, xn_m1, xn_1m, if_pos, if_neg, if_true, if_false, cond_true, cond_false, true_and, and_true, false_and, and_false, xr_cI_s, xr_cV_s, xr_cI_e, xr_cV_e, xm_xs, xs_xs, q3, q4]
          · simp (disch := omega) only [xi_t, xn_k, xn_lt, xn_eq, xn_mul, xn_add, xn_sub, xn_dec, xn_m1, xn_1m, if_pos, if_neg, if_true, if_false, cond_true, cond_false, true_and, and_true, false_and, and_false, xr_cI_s, xr_cV_s, xr_cI_e, xr_cV_e, xm_xs, xs_xs, q3]
        · generalize xfo (fun k b => if g (8 + k / 2) = nI 0 ∧ g (16 + k) = nI p then b ||| (nI 1 <<< (nI k &&& 31)) else b) (2 * nq) (nI 0) = hv
          refine (xg225_60 _ _ _ _ _ _ _ _).trans ?_
          simp (disch := omega) only [xi_t, xn_k, xn_lt, xn_eq, xn_mul, xn_add, xn_sub, xn_dec, xn_m1, xn_1m, if_pos, if_neg, if_true, if_false, cond_true, cond_false, true_and, and_true, false_and, and_false, xr_cI_s, xr_cV_s, xr_cI_e, xr_cV_e, xm_xs, xs_xs, m1]
          refine (xl_acc (fun j b => xr_Run (d + 59) 225 121 [xP 0 69, xI (nI p), xI (nI k), xI hv, xI b, xI (nI j)] [] xMd T) (fun k b => if (hv >>> (nI (2 * k) &&& 31)) &&& nI 3 = nI 3 then b ||| (nI 1 <<< (nI k &&& 31)) else b) (n := nq) (nI 0) (fun j b hj => ?_)).trans ?_
          · refine (xg225_121 _ _ _ _ _ _ _ _).trans ?_
            simp (disch := omega) only [xi_t, xn_k, xn_lt, xn_eq, xn_mul, xn_add, xn_sub, xn_dec, xn_m1, xn_1m, if_pos, if_neg, if_true, if_false, cond_true, cond_false, true_and, and_true, false_and, and_false, xr_cI_s, xr_cV_s, xr_cI_e, xr_cV_e, xm_xs, xs_xs, m1, xn_or0]
            split <;> rfl
          · refine (xg225_121 _ _ _ _ _ _ _ _).trans ?_
            simp (disch := omega) only [xi_t, xn_k, xn_lt, xn_eq, xn_mul, xn_add, xn_sub, xn_dec, xn_m1, xn_1m, if_pos, if_neg, if_true, if_false, cond_true, cond_false, true_and, and_true, false_and, and_false, xr_cI_s, xr_cV_s, xr_cI_e, xr_cV_e, xm_xs, xs_xs, m1]
            split <;> rfl
      refine Or.inl ⟨_, qOk_of (r := (if k = 0 then xfo (fun k b => if g (8 + k / 2) = nI 0 ∧ g (16 + k) = nI p then b ||| (nI 1 <<< (nI k &&& 31)) else b) (2 * nq) (nI 0) else xfo (fun k b => if ((xfo (fun k b => if g (8 + k / 2) = nI 0 ∧ g (16 + k) = nI p then b ||| (nI 1 <<< (nI k &&& 31)) else b) (2 * nq) (nI 0)) >>> (nI (2 * k) &&& 31)) &&& nI 3 = nI 3 then b ||| (nI 1 <<< (nI k &&& 31)) else b) nq (nI 0))) ?_ ?_⟩
      · rw [xe131]
        simp (disch := omega) only [xi_t, xn_k, xn_eq, xr_cV_s, p0, qc140y hpq, qc141y (Nat.zero_le k) hk, gc24 (Or.inl rfl) P G, gc25 (Or.inl rfl) P G, xr_cI_s]
        split <;> rfl
      · rw [xe225]; obtain ⟨T, hT, e0, I'⟩ := xT_ex I; rw [← hT]; obtain ⟨P', ⟨Lc', Lm', Lv'⟩, ⟨e89', G', W'⟩, ⟨Hc', Hm', HI'⟩, To'⟩ := id I'; obtain ⟨⟨p0', p1', p2', p3'⟩, ⟨m0', m1', m2', m3'⟩, ⟨b0', b1', b2', b3', b4'⟩, hp', hd'⟩ := id P'
        simp (disch := omega) only [xi_t, xn_k, xn_lt, xn_eq, xn_mul, xn_add, xn_sub, xn_dec, xn_m1, xn_1m, if_pos, if_neg, if_true, if_false, cond_true, cond_false, true_and, and_true, false_and, and_false, xr_cI_s, xr_cV_s, xr_cI_e, xr_cV_e, xm_xs, xs_xs, qm217y hpq (by omega) m0', qm152y (Nat.zero_le k) hk, qm151f _ _ e0]
        exact mm T I'
    · refine Or.inr (Or.inr ⟨by omega, qNo_of (nI 0) (by omega) ?_ (fun T hT => ?_)⟩)
      · rw [xe131]; simp (disch := omega) only [xi_t, xn_k, xn_lt, xn_eq, xn_mul, xn_add, xn_sub, xn_dec, xn_m1, xn_1m, if_pos, if_neg, if_true, if_false, cond_true, cond_false, true_and, and_true, false_and, and_false, xr_cI_s, xr_cV_s, xr_cI_e, xr_cV_e, xm_xs, xs_xs, p0, qc140y hpq, qc141n (by omega) (by omega) q2]
      · rw [xe225]; have e0 : xm (xs T (xw (xm T) 0 69 0 (nI 0))) 0 69 0 = nI 0 := (by rw [xm_xs, xw_y (by omega)]); have f0 : xm (xs T (xw (xm T) 0 69 0 (nI 0))) 0 73 0 = nI np := (by rw [xm_xs, xw_n (by omega), hT, xw_n (by omega)]; exact m0)
        simp (disch := omega) only [xi_t, xn_k, xn_lt, xn_eq, xn_mul, xn_add, xn_sub, xn_dec, xn_m1, xn_1m, if_pos, if_neg, if_true, if_false, cond_true, cond_false, true_and, and_true, false_and, and_false, xr_cI_s, xr_cV_s, xr_cI_e, xr_cV_e, xm_xs, xs_xs, qm217y hpq (by omega) f0, qm152n (by omega) (by omega) q2, qm151f _ _ e0, qm151t (t := 2) (r := 1) (by omega) (by omega) (by omega) e0]
  · refine Or.inr (Or.inl ⟨by omega, qNo_of (nI 0) (by omega) ?_ (fun T hT => ?_)⟩)
    · rw [xe131]; simp (disch := omega) only [xi_t, xn_k, xn_lt, xn_eq, xn_mul, xn_add, xn_sub, xn_dec, xn_m1, xn_1m, if_pos, if_neg, if_true, if_false, cond_true, cond_false, true_and, and_true, false_and, and_false, xr_cI_s, xr_cV_s, xr_cI_e, xr_cV_e, xm_xs, xs_xs, p0, qc140n (by omega) q]
    · rw [xe225]; have e0 : xm (xs T (xw (xm T) 0 69 0 (nI 0))) 0 69 0 = nI 0 := (by rw [xm_xs, xw_y (by omega)]); have f0 : xm (xs T (xw (xm T) 0 69 0 (nI 0))) 0 73 0 = nI np := (by rw [xm_xs, xw_n (by omega), hT, xw_n (by omega)]; exact m0)
      simp (disch := omega) only [xi_t, xn_k, xn_lt, xn_eq, xn_mul, xn_add, xn_sub, xn_dec, xn_m1, xn_1m, if_pos, if_neg, if_true, if_false, cond_true, cond_false, true_and, and_true, false_and, and_false, xr_cI_s, xr_cV_s, xr_cI_e, xr_cV_e, xm_xs, xs_xs, qm217n (by omega) f0 q, qm151t (t := 1) (r := 0) (by omega) (by omega) (by omega) e0]
theorem q_deep (I : xIq (xm S) np nq ch st du pl dy dp sz kd gv g h s ln ti fl) (a b : Int32) : qRes d 132 226 [xI a, xI b] S 1 2 := by
  obtain ⟨P, ⟨Lc, Lm, Lv⟩, ⟨e89, G, W⟩, ⟨Hc, Hm, HI⟩, To⟩ := id I; obtain ⟨⟨p0, p1, p2, p3⟩, ⟨m0, m1, m2, m3⟩, ⟨b0, b1, b2, b3, b4⟩, hp, hd⟩ := id P
  by_cases q : xrl a (2 * nq)
  · obtain ⟨p, hpq, rfl⟩ := q
    by_cases q2 : xrg b 0 1
    · obtain ⟨k, _, hk, rfl⟩ := q2
      obtain ⟨c39, c40, c41, d2, d3, d4, l1, l2, l3⟩ := hp (p / 2) (by omega)
      have z : ¬ nI 2 = 0 := by decide
      refine Or.inl ⟨nI (gdeep g p k (pl (p / 2) - 1)), qOk_of ?_ ?_⟩
      · rw [xe132]
        simp (disch := omega) only [xi_t, xn_k, xn_lt, xn_eq, xn_mul, xn_add, xn_sub, xn_dec, xn_m1, xn_1m, if_pos, if_neg, if_true, if_false, cond_true, cond_false, true_and, and_true, false_and, and_false, xr_cI_s, xr_cV_s, xr_cI_e, xr_cV_e, xm_xs, xs_xs, p1, qc140y hpq, qc141y (Nat.zero_le k) hk]
        have L := xl_inv (fun j (b : Nat × xr_V) => xr_Run (d + 59) 132 26 [xP 0 0, xI (nI p), xI (nI k), xI (nI b.1), xI (nI (j + 1)), b.2] [] xMd S) (fun j b => (if (k = 0 ∧ gN g (48 + 6 * p + (j + 1)) < gN g (48 + 6 * p + b.1)) ∨ (k = 1 ∧ gN g (48 + 6 * p + b.1) < gN g (48 + 6 * p + (j + 1))) then j + 1 else b.1, xI (nI (gN g (48 + 6 * p + (j + 1))) - nI (gN g (48 + 6 * p + b.1))))) (fun j b => b.1 ≤ j) (n := pl (p / 2) - 1) (a := (0, xU)) (Nat.le_refl _) (fun j b hj hb => by
          obtain ⟨b, v⟩ := b
          dsimp only at hb ⊢
          obtain ⟨wa, la, _⟩ := W.2 p (j + 1) (by omega) (by omega)
          obtain ⟨wb, lb, _⟩ := W.2 p b (by omega) (by omega)
          have ea := (G.2.2.2.2.2 p (j + 1) (by omega) (by omega)).trans wa
          have eb := (G.2.2.2.2.2 p b (by omega) (by omega)).trans wb
          refine ⟨?_, by split <;> omega⟩
          refine (xg132_26 _ _ _ _ _ _ _).trans ?_
          simp (disch := omega) only [z, xn_div, xi_t, xn_k, xn_lt, xn_eq, xn_mul, xn_add, if_pos, if_false, cond_true, c41, ea, eb, xn_ltz, xn_slt, Nat.zero_add]
          rcases (by omega : k = 0 ∨ k = 1) with rfl | rfl
          · by_cases q5 : gN g (48 + 6 * p + (j + 1)) < gN g (48 + 6 * p + b) <;> simp (disch := omega) only [q5, if_true, if_false, true_and, false_and, or_false, false_or, Nat.reduceEqDiff]
          · by_cases q5 : gN g (48 + 6 * p + b) < gN g (48 + 6 * p + (j + 1)) <;> simp (disch := omega) only [q5, if_true, if_false, true_and, false_and, or_false, false_or, Nat.reduceEqDiff])
        refine L.1.trans ?_
        refine (xg132_26 _ _ _ _ _ _ _).trans ?_
        have e := xfo_fst (g := fun k' b => if (k = 0 ∧ gN g (48 + 6 * p + (k' + 1)) < gN g (48 + 6 * p + b)) ∨ (k = 1 ∧ gN g (48 + 6 * p + b) < gN g (48 + 6 * p + (k' + 1))) then k' + 1 else b) (f := fun j (b : Nat × xr_V) => (if (k = 0 ∧ gN g (48 + 6 * p + (j + 1)) < gN g (48 + 6 * p + b.1)) ∨ (k = 1 ∧ gN g (48 + 6 * p + b.1) < gN g (48 + 6 * p + (j + 1))) then j + 1 else b.1, xI (nI (gN g (48 + 6 * p + (j + 1))) - nI (gN g (48 + 6 * p + b.1))))) (pl (p / 2) - 1) (0, xU) (fun _ _ _ => rfl)
        rw [e]
        simp (disch := omega) only [z, xn_div, xi_t, xn_k, xn_lt, xn_eq, xn_mul, xn_add, xn_sub, xn_dec, xn_m1, xn_1m, if_pos, if_neg, if_true, if_false, cond_true, cond_false, true_and, and_true, false_and, and_false, xr_cI_s, xr_cV_s, xr_cI_e, xr_cV_e, xm_xs, xs_xs, c41]
        rfl
      · rw [xe226]; obtain ⟨T, hT, e0, I'⟩ := xT_ex I; rw [← hT]; obtain ⟨P', ⟨Lc', Lm', Lv'⟩, ⟨e89', G', W'⟩, ⟨Hc', Hm', HI'⟩, To'⟩ := id I'; obtain ⟨⟨p0', p1', p2', p3'⟩, ⟨m0', m1', m2', m3'⟩, ⟨b0', b1', b2', b3', b4'⟩, hp', hd'⟩ := id P'
        simp (disch := omega) only [xi_t, xn_k, xn_lt, xn_eq, xn_mul, xn_add, xn_sub, xn_dec, xn_m1, xn_1m, if_pos, if_neg, if_true, if_false, cond_true, cond_false, true_and, and_true, false_and, and_false, xr_cI_s, xr_cV_s, xr_cI_e, xr_cV_e, xm_xs, xs_xs, qm219y hpq (by omega) m1', qm152y (Nat.zero_le k) hk, qm151f _ _ e0]
        have d4' := (hp' (p / 2) (by omega)).2.2.2.2.2.1
        have L := xl_inv (fun j (b : Nat × xr_V × xr_V) => xr_Run (d + 59) 226 57 [xP 0 69, xI (nI p), xI (nI k), xI (nI b.1), xI (nI (j + 1)), b.2.1, b.2.2] [] xMd T) (fun j b => (if (k = 0 ∧ gN g (48 + 6 * p + (j + 1)) < gN g (48 + 6 * p + b.1)) ∨ (k = 1 ∧ gN g (48 + 6 * p + b.1) < gN g (48 + 6 * p + (j + 1))) then j + 1 else b.1, xI (nI (gN g (48 + 6 * p + (j + 1)))), xI (nI (gN g (48 + 6 * p + b.1))))) (fun j b => b.1 ≤ j) (n := pl (p / 2) - 1) (a := (0, xU, xU)) (Nat.le_refl _) (fun j b hj hb => by
          obtain ⟨b, v⟩ := b
          dsimp only at hb ⊢
          obtain ⟨wa, la, _⟩ := W.2 p (j + 1) (by omega) (by omega)
          obtain ⟨wb, lb, _⟩ := W.2 p b (by omega) (by omega)
          refine ⟨?_, by split <;> omega⟩
          refine (xg226_57 _ _ _ _ _ _ _ _ _).trans ?_
          simp (disch := omega) only [xe201 (d + 58) _ _ 89 (Or.inl rfl), z, xn_div, xi_t, xn_k, xn_eq, xn_mul, xn_add, if_false, cond_true, d4', e89', xr_cI_s]
          rw [wa, wb]
          simp (disch := omega) only [xn_lt]
          rw [if_pos (by omega)]
          rcases (by omega : k = 0 ∨ k = 1) with rfl | rfl
          · by_cases q5 : gN g (48 + 6 * p + (j + 1)) < gN g (48 + 6 * p + b) <;> simp (disch := omega) only [q5, if_true, if_false, true_and, false_and, or_false, false_or, Nat.reduceEqDiff]
          · by_cases q5 : gN g (48 + 6 * p + b) < gN g (48 + 6 * p + (j + 1)) <;> simp (disch := omega) only [q5, if_true, if_false, true_and, false_and, or_false, false_or, Nat.reduceEqDiff])
        refine L.1.trans ?_
        refine (xg226_57 _ _ _ _ _ _ _ _ _).trans ?_
        have e := xfo_fst (g := fun k' b => if (k = 0 ∧ gN g (48 + 6 * p + (k' + 1)) < gN g (48 + 6 * p + b)) ∨ (k = 1 ∧ gN g (48 + 6 * p + b) < gN g (48 + 6 * p + (k' + 1))) then k' + 1 else b) (f := fun j (b : Nat × xr_V × xr_V) => (if (k = 0 ∧ gN g (48 + 6 * p + (j + 1)) < gN g (48 + 6 * p + b.1)) ∨ (k = 1 ∧ gN g (48 + 6 * p + b.1) < gN g (48 + 6 * p + (j + 1))) then j + 1 else b.1, xI (nI (gN g (48 + 6 * p + (j + 1)))), xI (nI (gN g (48 + 6 * p + b.1))))) (pl (p / 2) - 1) (0, xU, xU) (fun _ _ _ => rfl)
        rw [e]
        simp (disch := omega) only [z, xn_div, xi_t, xn_k, xn_lt, xn_eq, xn_mul, xn_add, xn_sub, xn_dec, xn_m1, xn_1m, if_pos, if_neg, if_true, if_false, cond_true, cond_false, true_and, and_true, false_and, and_false, xr_cI_s, xr_cV_s, xr_cI_e, xr_cV_e, xm_xs, xs_xs, d4']
        rfl
    · refine Or.inr (Or.inr ⟨by omega, qNo_of (nI 0) (by omega) ?_ (fun T hT => ?_)⟩)
      · rw [xe132]; simp (disch := omega) only [xi_t, xn_k, xn_lt, xn_eq, xn_mul, xn_add, xn_sub, xn_dec, xn_m1, xn_1m, if_pos, if_neg, if_true, if_false, cond_true, cond_false, true_and, and_true, false_and, and_false, xr_cI_s, xr_cV_s, xr_cI_e, xr_cV_e, xm_xs, xs_xs, p1, qc140y hpq, qc141n (by omega) (by omega) q2]
      · rw [xe226]; have e0 : xm (xs T (xw (xm T) 0 69 0 (nI 0))) 0 69 0 = nI 0 := (by rw [xm_xs, xw_y (by omega)]); have f1 : xm (xs T (xw (xm T) 0 69 0 (nI 0))) 0 73 1 = nI nq := (by rw [xm_xs, xw_n (by omega), hT, xw_n (by omega)]; exact m1)
        simp (disch := omega) only [xi_t, xn_k, xn_lt, xn_eq, xn_mul, xn_add, xn_sub, xn_dec, xn_m1, xn_1m, if_pos, if_neg, if_true, if_false, cond_true, cond_false, true_and, and_true, false_and, and_false, xr_cI_s, xr_cV_s, xr_cI_e, xr_cV_e, xm_xs, xs_xs, qm219y hpq (by omega) f1, qm152n (by omega) (by omega) q2, qm151f _ _ e0, qm151t (t := 2) (r := 1) (by omega) (by omega) (by omega) e0]
  · refine Or.inr (Or.inl ⟨by omega, qNo_of (nI 0) (by omega) ?_ (fun T hT => ?_)⟩)
    · rw [xe132]; simp (disch := omega) only [xi_t, xn_k, xn_lt, xn_eq, xn_mul, xn_add, xn_sub, xn_dec, xn_m1, xn_1m, if_pos, if_neg, if_true, if_false, cond_true, cond_false, true_and, and_true, false_and, and_false, xr_cI_s, xr_cV_s, xr_cI_e, xr_cV_e, xm_xs, xs_xs, p1, qc140n (show 2 * nq < 2147483648 by omega) q]
    · rw [xe226]; have e0 : xm (xs T (xw (xm T) 0 69 0 (nI 0))) 0 69 0 = nI 0 := (by rw [xm_xs, xw_y (by omega)]); have f1 : xm (xs T (xw (xm T) 0 69 0 (nI 0))) 0 73 1 = nI nq := (by rw [xm_xs, xw_n (by omega), hT, xw_n (by omega)]; exact m1)
      simp (disch := omega) only [xi_t, xn_k, xn_lt, xn_eq, xn_mul, xn_add, xn_sub, xn_dec, xn_m1, xn_1m, if_pos, if_neg, if_true, if_false, cond_true, cond_false, true_and, and_true, false_and, and_false, xr_cI_s, xr_cV_s, xr_cI_e, xr_cV_e, xm_xs, xs_xs, qm219n (by omega) f1 q, qm151t (t := 1) (r := 0) (by omega) (by omega) (by omega) e0]
theorem gchips_le (W : xgW np nq pl g) {a b c : Nat} (ha : a < 2 * nq) (hb : b < 2 * nq) (hl : pl (a / 2) ≤ 6) (q : gchips ch pl g a b = some c) : c ≤ 54 := by
  unfold gchips at q
  split at q
  · split at q
    · cases q
    · have := gap_le W ha hb (pl (a / 2)) hl
      cases q
      omega
  · cases q
theorem oI1_n : oI1 none = -1 := rfl
theorem oI2_n : oI2 none = -1 := rfl
theorem oI1_s (b c : Nat) : oI1 (some (b, c)) = nI b := rfl
theorem oI2_s (b c : Nat) : oI2 (some (b, c)) = nI c := rfl
theorem q_easiest (I : xIq (xm S) np nq ch st du pl dy dp sz kd gv g h s ln ti fl) (a : Int32) : qRes d 125 255 [xI a] S 1 0 := by
  obtain ⟨P, ⟨Lc, Lm, Lv⟩, ⟨e89, G, W⟩, ⟨Hc, Hm, HI⟩, To⟩ := id I; obtain ⟨⟨p0, p1, p2, p3⟩, ⟨m0, m1, m2, m3⟩, ⟨b0, b1, b2, b3, b4⟩, hp, hd⟩ := id P
  by_cases q : xrl a (2 * nq)
  · obtain ⟨p, hpq, rfl⟩ := q
    have l3 := (hp (p / 2) (by omega)).2.2.2.2.2.2.2.2
    have z : ¬ nI 2 = 0 := by decide
    have inv : ∀ b o, b < 2 * nq → (∀ b0 c0, o = some (b0, c0) → b0 < 16 ∧ c0 ≤ 54) → ∀ b0 c0, geas1 (if b = p then none else if g (8 + b / 2) = nI 0 then gchips ch pl g p b else none) b o = some (b0, c0) → b0 < 16 ∧ c0 ≤ 54 := by
      intro b o hb ho b0 c0 e
      by_cases q1 : b = p
      · rw [if_pos q1] at e; exact ho _ _ e
      · rw [if_neg q1] at e
        by_cases q2 : g (8 + b / 2) = nI 0
        · rw [if_pos q2] at e
          cases hc : gchips ch pl g p b with
          | none => rw [hc] at e; exact ho _ _ e
          | some c =>
            have hl := gchips_le W hpq hb l3 hc
            rw [hc] at e
            cases o with
            | none => cases e; exact ⟨by omega, hl⟩
            | some bc =>
              obtain ⟨b1, c1⟩ := bc
              dsimp only [geas1] at e
              split at e
              · cases e; exact ⟨by omega, hl⟩
              · exact ho _ _ e
        · rw [if_neg q2] at e; exact ho _ _ e
    refine Or.inl ⟨oI1 (geasy nq ch pl g p), qOk_of ?_ ?_⟩
    · rw [xe125]
      simp (disch := omega) only [xi_t, xn_k, xn_lt, xn_eq, xn_mul, xn_add, xn_sub, xn_dec, xn_m1, xn_1m, if_pos, if_neg, if_true, if_false, cond_true, cond_false, true_and, and_true, false_and, and_false, xr_cI_s, xr_cV_s, xr_cI_e, xr_cV_e, xm_xs, xs_xs, p1, qc140y hpq]
      have L := xl_inv (fun j (b : Option (Nat × Nat) × xr_V) => xr_Run (d + 59) 125 21 [xP 0 0, xI (nI p), xI (oI1 b.1), xI (oI2 b.1), xI (nI j), b.2] [] xMd S) (fun j b => (geas1 (if j = p then none else if g (8 + j / 2) = nI 0 then gchips ch pl g p j else none) j b.1, if j = p then b.2 else if g (8 + j / 2) = nI 0 then xI (oI (gchips ch pl g p j)) else b.2)) (fun j b => ∀ b0 c0, b.1 = some (b0, c0) → b0 < 16 ∧ c0 ≤ 54) (n := 2 * nq) (a := (none, xU)) (fun _ _ h => nomatch h) (fun j b hj hb => by
        obtain ⟨o, v⟩ := b
        dsimp only at hb ⊢
        refine ⟨?_, inv j o hj hb⟩
        refine (xg125_21 _ _ _ _ _ _ _).trans ?_
        by_cases q1 : j = p
        · simp (disch := omega) only [xi_t, xn_k, xn_lt, xn_eq, xn_mul, xn_add, xn_sub, xn_dec, xn_m1, xn_1m, if_pos, if_neg, if_true, if_false, cond_true, cond_false, true_and, and_true, false_and, and_false, xr_cI_s, xr_cV_s, xr_cI_e, xr_cV_e, xm_xs, xs_xs, p1, q1, geas1]
        · by_cases q2 : g (8 + j / 2) = nI 0
          · simp (disch := omega) only [z, xn_div, xi_t, xn_k, xn_lt, xn_eq, xn_mul, xn_add, xn_sub, xn_dec, xn_m1, xn_1m, if_pos, if_neg, if_true, if_false, cond_true, cond_false, true_and, and_true, false_and, and_false, xr_cI_s, xr_cV_s, xr_cI_e, xr_cV_e, xm_xs, xs_xs, p1, q1, q2, G.2.2.1 (j / 2) (by omega), gc15 (Or.inl rfl) P G W]
            cases hc : gchips ch pl g p j with
            | none => simp (disch := omega) only [oI, xi_t, xn_k, xn_lt, xn_eq, xn_mul, xn_add, xn_sub, xn_dec, xn_m1, xn_1m, if_pos, if_neg, if_true, if_false, cond_true, cond_false, true_and, and_true, false_and, and_false, xr_cI_s, xr_cV_s, xr_cI_e, xr_cV_e, xm_xs, xs_xs, geas1]
            | some c =>
              have hl := gchips_le W hpq hj l3 hc
              cases o with
              | none => simp (disch := omega) only [oI, oI1_n, oI2_n, oI1_s, oI2_s, xi_t, xn_k, xn_lt, xn_eq, xn_mul, xn_add, xn_sub, xn_dec, xn_m1, xn_1m, if_pos, if_neg, if_true, if_false, cond_true, cond_false, true_and, and_true, false_and, and_false, xr_cI_s, xr_cV_s, xr_cI_e, xr_cV_e, xm_xs, xs_xs, geas1]
              | some bc =>
                obtain ⟨b1, c1⟩ := bc
                obtain ⟨h1, h2⟩ := hb b1 c1 rfl
                simp (disch := omega) only [oI, oI1_s, oI2_s, xi_t, xn_k, xn_lt, xn_eq, xn_mul, xn_add, xn_sub, xn_dec, xn_m1, xn_1m, if_pos, if_neg, if_true, if_false, cond_true, cond_false, true_and, and_true, false_and, and_false, xr_cI_s, xr_cV_s, xr_cI_e, xr_cV_e, xm_xs, xs_xs, geas1]
                split <;> rfl
          · simp (disch := omega) only [z, xn_div, xi_t, xn_k, xn_lt, xn_eq, xn_mul, xn_add, xn_sub, xn_dec, xn_m1, xn_1m, if_pos, if_neg, if_true, if_false, cond_true, cond_false, true_and, and_true, false_and, and_false, xr_cI_s, xr_cV_s, xr_cI_e, xr_cV_e, xm_xs, xs_xs, p1, q1, q2, G.2.2.1 (j / 2) (by omega), geas1])
      refine L.1.trans ?_
      refine (xg125_21 _ _ _ _ _ _ _).trans ?_
      rw [xfo_fst (g := fun b o => geas1 (if b = p then none else if g (8 + b / 2) = nI 0 then gchips ch pl g p b else none) b o) (2 * nq) (none, xU) (fun _ _ _ => rfl)]
      simp (disch := omega) only [xi_t, xn_k, xn_lt, xn_eq, xn_mul, xn_add, xn_sub, xn_dec, xn_m1, xn_1m, if_pos, if_neg, if_true, if_false, cond_true, cond_false, true_and, and_true, false_and, and_false, xr_cI_s, xr_cV_s, xr_cI_e, xr_cV_e, xm_xs, xs_xs, p1]
      rfl
    · rw [xe255]; obtain ⟨T, hT, e0, I'⟩ := xT_ex I; rw [← hT]; obtain ⟨P', ⟨Lc', Lm', Lv'⟩, ⟨e89', G', W'⟩, ⟨Hc', Hm', HI'⟩, To'⟩ := id I'; obtain ⟨⟨p0', p1', p2', p3'⟩, ⟨m0', m1', m2', m3'⟩, ⟨b0', b1', b2', b3', b4'⟩, hp', hd'⟩ := id P'
      simp (disch := omega) only [xi_t, xn_k, xn_lt, xn_eq, xn_mul, xn_add, xn_sub, xn_dec, xn_m1, xn_1m, if_pos, if_neg, if_true, if_false, cond_true, cond_false, true_and, and_true, false_and, and_false, xr_cI_s, xr_cV_s, xr_cI_e, xr_cV_e, xm_xs, xs_xs, qm219y hpq (by omega) m1', qm151f _ _ e0]
      have W2 : xgW np nq pl (xm T 0 89) := by rw [e89']; exact W
      have L := xl_inv (fun j (b : Option (Nat × Nat) × xr_V) => xr_Run (d + 59) 255 36 [xP 0 69, xI (nI p), xI (oI1 b.1), xI (oI2 b.1), xI (nI j), b.2] [] xMd T) (fun j b => (geas1 (if j = p then none else if g (8 + j / 2) = nI 0 then gchips ch pl g p j else none) j b.1, if j = p then xI (-1) else if g (8 + j / 2) = nI 0 then xI (oI (gchips ch pl g p j)) else xI (-1))) (fun j b => ∀ b0 c0, b.1 = some (b0, c0) → b0 < 16 ∧ c0 ≤ 54) (n := 2 * nq) (a := (none, xU)) (fun _ _ h => nomatch h) (fun j b hj hb => by
        obtain ⟨o, v⟩ := b
        dsimp only at hb ⊢
        refine ⟨?_, inv j o hj hb⟩
        refine (xg255_36 _ _ _ _ _ _ _ _).trans ?_
        by_cases q1 : j = p
        · simp (disch := omega) only [xi_t, xn_k, xn_lt, xn_eq, xn_mul, xn_add, xn_sub, xn_dec, xn_m1, xn_1m, if_pos, if_neg, if_true, if_false, cond_true, cond_false, true_and, and_true, false_and, and_false, xr_cI_s, xr_cV_s, xr_cI_e, xr_cV_e, xm_xs, xs_xs, m1', q1, geas1]
        · by_cases q2 : g (8 + j / 2) = nI 0
          · simp (disch := omega) only [z, xn_div, xi_t, xn_k, xn_lt, xn_eq, xn_mul, xn_add, xn_sub, xn_dec, xn_m1, xn_1m, if_pos, if_neg, if_true, if_false, cond_true, cond_false, true_and, and_true, false_and, and_false, xr_cI_s, xr_cV_s, xr_cI_e, xr_cV_e, xm_xs, xs_xs, m1', q1, gm206 (Or.inl rfl), gm253 P' W2, e89', bI, q2]
            cases hc : gchips ch pl g p j with
            | none => simp (disch := omega) only [oI, xi_t, xn_k, xn_lt, xn_eq, xn_mul, xn_add, xn_sub, xn_dec, xn_m1, xn_1m, if_pos, if_neg, if_true, if_false, cond_true, cond_false, true_and, and_true, false_and, and_false, xr_cI_s, xr_cV_s, xr_cI_e, xr_cV_e, xm_xs, xs_xs, geas1]
            | some c =>
              have hl := gchips_le W hpq hj l3 hc
              cases o with
              | none => simp (disch := omega) only [oI, oI1_n, oI2_n, oI1_s, oI2_s, xi_t, xn_k, xn_lt, xn_eq, xn_mul, xn_add, xn_sub, xn_dec, xn_m1, xn_1m, if_pos, if_neg, if_true, if_false, cond_true, cond_false, true_and, and_true, false_and, and_false, xr_cI_s, xr_cV_s, xr_cI_e, xr_cV_e, xm_xs, xs_xs, geas1]
              | some bc =>
                obtain ⟨b1, c1⟩ := bc
                obtain ⟨h1, h2⟩ := hb b1 c1 rfl
                simp (disch := omega) only [oI, oI1_s, oI2_s, xi_t, xn_k, xn_lt, xn_eq, xn_mul, xn_add, xn_sub, xn_dec, xn_m1, xn_1m, if_pos, if_neg, if_true, if_false, cond_true, cond_false, true_and, and_true, false_and, and_false, xr_cI_s, xr_cV_s, xr_cI_e, xr_cV_e, xm_xs, xs_xs, geas1]
                split <;> rfl
          · simp (disch := omega) only [z, xn_div, xi_t, xn_k, xn_lt, xn_eq, xn_mul, xn_add, xn_sub, xn_dec, xn_m1, xn_1m, if_pos, if_neg, if_true, if_false, cond_true, cond_false, true_and, and_true, false_and, and_false, xr_cI_s, xr_cV_s, xr_cI_e, xr_cV_e, xm_xs, xs_xs, m1', q1, gm206 (Or.inl rfl), e89', bI, q2, geas1])
      refine L.1.trans ?_
      refine (xg255_36 _ _ _ _ _ _ _ _).trans ?_
      rw [xfo_fst (g := fun b o => geas1 (if b = p then none else if g (8 + b / 2) = nI 0 then gchips ch pl g p b else none) b o) (2 * nq) (none, xU) (fun _ _ _ => rfl)]
      simp (disch := omega) only [xi_t, xn_k, xn_lt, xn_eq, xn_mul, xn_add, xn_sub, xn_dec, xn_m1, xn_1m, if_pos, if_neg, if_true, if_false, cond_true, cond_false, true_and, and_true, false_and, and_false, xr_cI_s, xr_cV_s, xr_cI_e, xr_cV_e, xm_xs, xs_xs, m1']
      rfl
  · refine Or.inr (Or.inl ⟨by omega, qNo_of (nI 0) (by omega) ?_ (fun T hT => ?_)⟩)
    · rw [xe125]; simp (disch := omega) only [xi_t, xn_k, xn_lt, xn_eq, xn_mul, xn_add, xn_sub, xn_dec, xn_m1, xn_1m, if_pos, if_neg, if_true, if_false, cond_true, cond_false, true_and, and_true, false_and, and_false, xr_cI_s, xr_cV_s, xr_cI_e, xr_cV_e, xm_xs, xs_xs, p1, qc140n (show 2 * nq < 2147483648 by omega) q]
    · rw [xe255]; have e0 : xm (xs T (xw (xm T) 0 69 0 (nI 0))) 0 69 0 = nI 0 := (by rw [xm_xs, xw_y (by omega)]); have f1 : xm (xs T (xw (xm T) 0 69 0 (nI 0))) 0 73 1 = nI nq := (by rw [xm_xs, xw_n (by omega), hT, xw_n (by omega)]; exact m1)
      simp (disch := omega) only [xi_t, xn_k, xn_lt, xn_eq, xn_mul, xn_add, xn_sub, xn_dec, xn_m1, xn_1m, if_pos, if_neg, if_true, if_false, cond_true, cond_false, true_and, and_true, false_and, and_false, xr_cI_s, xr_cV_s, xr_cI_e, xr_cV_e, xm_xs, xs_xs, qm219n (by omega) f1 q, qm151t (t := 1) (r := 0) (by omega) (by omega) (by omega) e0]
end
