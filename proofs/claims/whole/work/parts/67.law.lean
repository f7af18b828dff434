/-! THE LAW: sz signs, kinds kd (0 a number, 1..6 a leaf, 7..12 a sign), numbers gv -/
theorem xn_dm1 (a : Int32) : a / -1 = -a := Int32.toInt_inj.mp (by rw [Int32.toInt_div, show (-1 : Int32).toInt = -1 by decide, Int.tdiv_neg, Int.tdiv_one, Int32.toInt_neg])
def ldep (kd : Nat → Nat) : Nat → Nat
  | 0 => 0
  | k + 1 => if kd k < 7 then ldep kd k + 1 else ldep kd k - 1
def ljoin (k : Nat) (a b : Int32) : Int32 := if k = 7 then a + b else if k = 8 then a - b else if k = 9 then a * b else if k = 10 then (if b = 0 then 0 else a / b) else if k = 11 then (if a < b then a else b) else (if b < a then a else b)
def lstk (kd : Nat → Nat) (gv lv : Nat → Int32) : Nat → Nat → Int32
  | 0 => fun _ => 0
  | k + 1 => if kd k = 0 then xu (lstk kd gv lv k) (ldep kd k) (gv k) else if kd k < 7 then xu (lstk kd gv lv k) (ldep kd k) (lv (kd k)) else xu (lstk kd gv lv k) (ldep kd k - 2) (ljoin (kd k) (lstk kd gv lv k (ldep kd k - 2)) (lstk kd gv lv k (ldep kd k - 1)))
def leval (sz : Nat) (kd : Nat → Nat) (gv lv : Nat → Int32) : Int32 := if sz = 0 then nI 0 else lstk kd gv lv sz 0
def lvs (a b c d e f : Int32) : Nat → Int32 := fun j => if j = 1 then a else if j = 2 then b else if j = 3 then c else if j = 4 then d else if j = 5 then e else f
def lcl (x : Int32) (n : Nat) : Nat := if x < nI 0 then 0 else if x < nI n then xk x else n
def lwear (sz : Nat) (kd : Nat → Nat) (gv : Nat → Int32) (a : Nat) (b c d e f : Int32) : Nat := lcl (leval sz kd gv (lvs (nI a) b c d e f)) a
def xLc (M : xr_M) (sz : Nat) (kd : Nat → Nat) (gv : Nat → Int32) : Prop := M 0 53 4 = nI sz ∧ (∀ k, k < sz → M 0 54 k = nI (kd k)) ∧ ∀ k, k < sz → kd k = 0 → M 0 55 k = gv k
def xLm (M : xr_M) (sz : Nat) (kd : Nat → Nat) (gv : Nat → Int32) : Prop := M 0 69 21 = nI sz ∧ ∀ k, k < sz → (kd k = 0 → M k 1082 0 = nI 0 ∧ M k 1082 1 = gv k) ∧ (1 ≤ kd k → kd k < 7 → M k 1082 0 = nI 1 ∧ M k 1082 1 = nI (kd k - 1)) ∧ (7 ≤ kd k → M k 1082 0 = nI (kd k - 5))
def xLv (sz : Nat) (kd : Nat → Nat) : Prop := sz ≤ 150 ∧ ∀ k, k < sz → kd k ≤ 12 ∧ (7 ≤ kd k → 2 ≤ ldep kd k)
theorem xLc_fr {M M' : xr_M} {sz : Nat} {kd : Nat → Nat} {gv : Nat → Int32} (h : ∀ e, (e = 53 ∨ e = 54 ∨ e = 55) → M' 0 e = M 0 e) (L : xLc M sz kd gv) : xLc M' sz kd gv := by
  unfold xLc at L ⊢
  rw [h 53 (by omega), h 54 (by omega), h 55 (by omega)]
  exact L
theorem xLm_fr {M M' : xr_M} {sz : Nat} {kd : Nat → Nat} {gv : Nat → Int32} (h : ∀ k, M' k 1082 = M k 1082) (h2 : M' 0 69 21 = M 0 69 21) (L : xLm M sz kd gv) : xLm M' sz kd gv := by
  unfold xLm at L ⊢
  rw [h2]
  refine ⟨L.1, fun k hk => ?_⟩
  rw [h k]
  exact L.2 k hk
theorem ldep_le (kd : Nat → Nat) : ∀ k, ldep kd k ≤ k
  | 0 => Nat.le_refl _
  | k + 1 => by
    have := ldep_le kd k
    rw [ldep]
    split <;> omega
theorem ldep_pos {sz : Nat} {kd : Nat → Nat} (V : xLv sz kd) : ∀ k, 0 < k → k ≤ sz → 1 ≤ ldep kd k
  | 0, h, _ => by omega
  | k + 1, _, h2 => by
    rw [ldep]
    split
    · omega
    · have := (V.2 k (by omega)).2 (by omega)
      omega
theorem lcl_le (x : Int32) (n : Nat) (hn : n < 2147483648) : lcl x n ≤ n := by
  unfold lcl
  split
  · omega
  · split
    · rename_i h1 h2
      rw [Int32.lt_iff_toInt_lt, nI_toInt hn] at h2
      unfold xk
      omega
    · omega
theorem lcl_eq (x : Int32) (n : Nat) (hn : n < 2147483648) : (if nI 0 < (if x < nI n then x else nI n) then (if x < nI n then x else nI n) else nI 0) = nI (lcl x n) := by
  unfold lcl
  by_cases q : x < nI 0
  · have h1 : x < nI n ∨ n = 0 ∨ True := Or.inr (Or.inr trivial)
    rw [if_pos q]
    have q' := q
    rw [Int32.lt_iff_toInt_lt, nI_toInt (by omega)] at q'
    have h3 : x < nI n := by rw [Int32.lt_iff_toInt_lt, nI_toInt hn]; omega
    rw [if_pos h3, if_neg]
    rw [Int32.lt_iff_toInt_lt, nI_toInt (by omega)]; omega
  · rw [if_neg q]
    have q' := q
    rw [Int32.lt_iff_toInt_lt, nI_toInt (by omega)] at q'
    by_cases q2 : x < nI n
    · rw [if_pos q2, if_pos q2]
      have e : x = nI (xk x) := by
        apply Int32.toInt_inj.mp
        have := x.toInt_lt
        rw [nI_toInt (by unfold xk; omega)]
        unfold xk
        omega
      by_cases q3 : nI 0 < x
      · rw [if_pos q3, ← e]
      · rw [if_neg q3]
        rw [Int32.lt_iff_toInt_lt, nI_toInt (by omega)] at q3
        rw [show xk x = 0 by unfold xk; omega]
    · rw [if_neg q2, if_neg q2]
      simp (disch := omega) only [xn_lt]
      by_cases q3 : 0 < n
      · rw [if_pos q3]
      · rw [if_neg q3, show n = 0 by omega]
theorem lcl_0 (x : Int32) : lcl x 0 = 0 := by
  have := lcl_le x 0 (by omega)
  omega
section
variable {d : Nat} {w : List Nat} {S : xr_S} {sz : Nat} {kd : Nat → Nat} {gv lv : Nat → Int32}
theorem lc55 {k : Nat} (h1 : 7 ≤ k) (h2 : k ≤ 12) (a b : Int32) : xr_Call (d + 1) 55 [xI (nI k), xI a, xI b] ([], w) S = some (.inl (some (ljoin k a b)), ([], w), S) := by
  rw [xe55]
  unfold ljoin
  rcases (by omega : k = 7 ∨ k = 8 ∨ k = 9 ∨ k = 10 ∨ k = 11 ∨ k = 12) with rfl | rfl | rfl | rfl | rfl | rfl
  · rw [xg55_1_7]; rfl
  · rw [xg55_1_8]; rfl
  · rw [xg55_1_9]; rfl
  · rw [xg55_1_10]
    have e : nI 0 = (0 : Int32) := nI_0
    rw [e]
    by_cases q : b = 0
    · simp only [q, if_true]; rfl
    · simp only [q, if_false]; rfl
  · rw [xg55_1_11]
    by_cases q : a < b
    · simp only [q, if_true]; rfl
    · simp only [q, if_false]; rfl
  · rw [xg55_1_12]
    by_cases q : b < a
    · simp only [q, if_true]; rfl
    · simp only [q, if_false]; rfl
theorem lm186 {k : Nat} (h1 : 7 ≤ k) (h2 : k ≤ 12) (a b : Int32) : xr_Call (d + 2) 186 [xI (nI (k - 5)), xI a, xI b] ([], w) S = some (.inl (some (ljoin k a b)), ([], w), S) := by
  rw [xe186]
  unfold ljoin
  rcases (by omega : k = 7 ∨ k = 8 ∨ k = 9 ∨ k = 10 ∨ k = 11 ∨ k = 12) with rfl | rfl | rfl | rfl | rfl | rfl
  · rw [xg186_1_2]; rfl
  · rw [xg186_1_3]; rfl
  · rw [xg186_1_4]; rfl
  · rw [xg186_1_5]
    have e : nI 0 = (0 : Int32) := nI_0
    rw [e]
    by_cases q : b = 0
    · simp only [q, if_true]; rfl
    · by_cases q2 : b = -1
      · subst q2
        rw [if_neg q, if_pos rfl, ← xn_dm1 a]
        rfl
      · simp only [q, q2, if_false]; rfl
  · rw [xg186_1_6, xe153]
    by_cases q : a < b
    · simp only [q, if_true, xr_cI_s]; rfl
    · simp only [q, if_false, xr_cI_s]; rfl
  · rw [xg186_1_7, xe154]
    by_cases q : b < a
    · simp only [q, if_true, xr_cI_s]; rfl
    · simp only [q, if_false, xr_cI_s]; rfl
theorem lc54L (V : xLv sz kd) : ∀ (n k : Nat) (S : xr_S) (v : xr_V), k + n = sz → xLc (xm S) sz kd gv → (∀ j, j < ldep kd k → xm S 0 56 j = lstk kd gv lv k j) → (∀ j, 1 ≤ j → j < 7 → xm S 0 57 j = lv j) → 0 < sz → ∃ M, xr_Run (d + 1) 54 4 [xP 0 53, xI (nI (ldep kd k)), xI (nI k), v] [] ([], w) S = some (.inl (some (lstk kd gv lv sz 0)), ([], w), xs S M) ∧ ∀ b e, ¬ (b = 0 ∧ e = 56) → M b e = xm S b e := by
  intro n
  induction n with
  | zero =>
    intro k S v hk L hs hl hz
    refine ⟨xm S, ?_, fun _ _ _ => rfl⟩
    have h1 := ldep_pos V sz hz (Nat.le_refl _)
    have e : k = sz := by omega
    subst e
    have h0 := hs 0 (by omega)
    obtain ⟨l0, l1, l2⟩ := L
    have v0 := V.1
    refine (xg54_4 _ _ _ _ _ _).trans ?_
    simp (disch := omega) only [xi_t, xn_k, xn_lt, xn_eq, xn_mul, xn_add, xn_sub, xn_dec, xn_m1, xn_1m, if_pos, if_neg, if_true, if_false, cond_true, cond_false, true_and, and_true, false_and, and_false, xr_cI_s, xr_cV_s, xr_cI_e, xr_cV_e, xm_xs, xs_xs, l0, h0, xs_xm]
  | succ n ih =>
    intro k S v hk L hs hl hz
    have L' := L
    obtain ⟨l0, l1, l2⟩ := L
    have v0 := V.1
    obtain ⟨v1, v2⟩ := V.2 k (by omega)
    have dl := ldep_le kd k
    have e1 := l1 k (by omega)
    have hst : lstk kd gv lv (k + 1) = if kd k = 0 then xu (lstk kd gv lv k) (ldep kd k) (gv k) else if kd k < 7 then xu (lstk kd gv lv k) (ldep kd k) (lv (kd k)) else xu (lstk kd gv lv k) (ldep kd k - 2) (ljoin (kd k) (lstk kd gv lv k (ldep kd k - 2)) (lstk kd gv lv k (ldep kd k - 1))) := rfl
    have hdp : ldep kd (k + 1) = if kd k < 7 then ldep kd k + 1 else ldep kd k - 1 := rfl
    have step : ∀ (pos : Nat) (x : Int32), (∀ j, j < ldep kd (k + 1) → xu (xm S 0 56) pos x j = lstk kd gv lv (k + 1) j) → (∀ M, xr_Run (d + 1) 54 4 [xP 0 53, xI (nI (ldep kd (k + 1))), xI (nI (k + 1)), xI (nI (kd k))] [] ([], w) (xs S (xw (xm S) 0 56 pos x)) = M → xr_Run (d + 1) 54 4 [xP 0 53, xI (nI (ldep kd k)), xI (nI k), v] [] ([], w) S = M) → ∃ M, xr_Run (d + 1) 54 4 [xP 0 53, xI (nI (ldep kd k)), xI (nI k), v] [] ([], w) S = some (.inl (some (lstk kd gv lv sz 0)), ([], w), xs S M) ∧ ∀ b e, ¬ (b = 0 ∧ e = 56) → M b e = xm S b e := by
      intro pos x hpos hrun
      obtain ⟨M, eM, F⟩ := ih (k + 1) (xs S (xw (xm S) 0 56 pos x)) (xI (nI (kd k))) (by omega) (xLc_fr (fun e he => by rw [xm_xs, xw_r (by omega)]) L') (fun j hj => by rw [xm_xs, xw_u]; exact hpos j hj) (fun j h1 h2 => by rw [xm_xs, xw_n (by omega)]; exact hl j h1 h2) hz
      refine ⟨M, hrun _ eM, fun b e q => ?_⟩
      rw [F b e q, xm_xs, xw_r q]
    by_cases q0 : kd k = 0
    · refine step (ldep kd k) (gv k) (fun j hj => ?_) (fun M hM => ?_)
      · rw [hst, if_pos q0]
        rw [hdp, if_pos (by omega)] at hj
        unfold xu
        split
        · rfl
        · exact hs j (by omega)
      · rw [← hM]
        refine (xg54_4 _ _ _ _ _ _).trans ?_
        simp (disch := omega) only [xi_t, xn_k, xn_lt, xn_eq, xn_mul, xn_add, xn_sub, xn_dec, xn_m1, xn_1m, if_pos, if_neg, if_true, if_false, cond_true, cond_false, true_and, and_true, false_and, and_false, xr_cI_s, xr_cV_s, xr_cI_e, xr_cV_e, xm_xs, xs_xs, l0, e1, l2 k (by omega) q0, hdp]
    · by_cases q7 : kd k < 7
      · refine step (ldep kd k) (lv (kd k)) (fun j hj => ?_) (fun M hM => ?_)
        · rw [hst, if_neg q0, if_pos q7]
          rw [hdp, if_pos q7] at hj
          unfold xu
          split
          · rfl
          · exact hs j (by omega)
        · rw [← hM]
          refine (xg54_4 _ _ _ _ _ _).trans ?_
          simp (disch := omega) only [xi_t, xn_k, xn_lt, xn_eq, xn_mul, xn_add, xn_sub, xn_dec, xn_m1, xn_1m, if_pos, if_neg, if_true, if_false, cond_true, cond_false, true_and, and_true, false_and, and_false, xr_cI_s, xr_cV_s, xr_cI_e, xr_cV_e, xm_xs, xs_xs, l0, e1, hl (kd k) (by omega) q7, hdp]
      · have v3 := v2 (by omega)
        refine step (ldep kd k - 2) (ljoin (kd k) (lstk kd gv lv k (ldep kd k - 2)) (lstk kd gv lv k (ldep kd k - 1))) (fun j hj => ?_) (fun M hM => ?_)
        · rw [hst, if_neg q0, if_neg q7]
          rw [hdp, if_neg q7] at hj
          unfold xu
          split
          · rfl
          · exact hs j (by omega)
        · rw [← hM]
          refine (xg54_4 _ _ _ _ _ _).trans ?_
          have s1 := hs (ldep kd k - 1) (by omega)
          have s2 := hs (ldep kd k - 2) (by omega)
          simp (disch := omega) only [xi_t, xn_k, xn_lt, xn_eq, xn_mul, xn_add, xn_sub, xn_dec, xn_m1, xn_1m, if_pos, if_neg, if_true, if_false, cond_true, cond_false, true_and, and_true, false_and, and_false, xr_cI_s, xr_cV_s, xr_cI_e, xr_cV_e, xm_xs, xs_xs, l0, e1, hdp]
          rw [xg54_61]
          simp (disch := omega) only [xi_t, xn_k, xn_lt, xn_eq, xn_mul, xn_add, xn_sub, xn_dec, xn_m1, xn_1m, if_pos, if_neg, if_true, if_false, cond_true, cond_false, true_and, and_true, false_and, and_false, xr_cI_s, xr_cV_s, xr_cI_e, xr_cV_e, xm_xs, xs_xs]
          rw [xg54_71]
          simp (disch := omega) only [xi_t, xn_k, xn_lt, xn_eq, xn_mul, xn_add, xn_sub, xn_dec, xn_m1, xn_1m, if_pos, if_neg, if_true, if_false, cond_true, cond_false, true_and, and_true, false_and, and_false, xr_cI_s, xr_cV_s, xr_cI_e, xr_cV_e, xm_xs, xs_xs]
          rw [xg54_86, show ldep kd k - 1 - 1 = ldep kd k - 2 by omega, s1, s2, lc55 (by omega) v1, xr_cI_s, xg54_89]
          simp (disch := omega) only [xi_t, xn_k, xn_lt, xn_eq, xn_mul, xn_add, xn_sub, xn_dec, xn_m1, xn_1m, if_pos, if_neg, if_true, if_false, cond_true, cond_false, true_and, and_true, false_and, and_false, xr_cI_s, xr_cV_s, xr_cI_e, xr_cV_e, xm_xs, xs_xs]
theorem lc53 (V : xLv sz kd) (L : xLc (xm S) sz kd gv) {a : Nat} (ha : a < 1000) (b c e f g : Int32) : ∃ M, xr_Call (d + 3) 53 [xP 0 53, xI (nI a), xI b, xI c, xI e, xI f, xI g] ([], w) S = some (.inl (some (nI (lwear sz kd gv a b c e f g))), ([], w), xs S M) ∧ ∀ x y, ¬ (x = 0 ∧ (y = 56 ∨ y = 57)) → M x y = xm S x y := by
  rw [xe53]
  have v0 := V.1
  unfold lwear
  by_cases q : a = 0
  · refine ⟨xm S, ?_, fun _ _ _ => rfl⟩
    subst q
    simp (disch := omega) only [xi_t, xn_k, xn_lt, xn_eq, xn_mul, xn_add, xn_sub, xn_dec, xn_m1, xn_1m, if_pos, if_neg, if_true, if_false, cond_true, cond_false, true_and, and_true, false_and, and_false, xr_cI_s, xr_cV_s, xr_cI_e, xr_cV_e, xm_xs, xs_xs, xs_xm, lcl_0]
  · by_cases q2 : sz = 0
    · refine ⟨xm S, ?_, fun _ _ _ => rfl⟩
      unfold leval lcl
      simp (disch := omega) only [xi_t, xn_k, xn_lt, xn_eq, xn_mul, xn_add, xn_sub, xn_dec, xn_m1, xn_1m, if_pos, if_neg, if_true, if_false, cond_true, cond_false, true_and, and_true, false_and, and_false, xr_cI_s, xr_cV_s, xr_cI_e, xr_cV_e, xm_xs, xs_xs, L.1, xs_xm]
    · unfold leval
      rw [if_neg q2]
      obtain ⟨M, eM, F⟩ := lc54L (d := d) (w := w) (gv := gv) (lv := lvs (nI a) b c e f g) V sz 0 (xs S (xw (xw (xw (xw (xw (xw (xm S) 0 57 1 (nI a)) 0 57 2 b) 0 57 3 c) 0 57 4 e) 0 57 5 f) 0 57 6 g)) xU (by omega) (xLc_fr (fun e he => by rw [xm_xs, xw_r (by omega), xw_r (by omega), xw_r (by omega), xw_r (by omega), xw_r (by omega), xw_r (by omega)]) L) (fun j hj => by rw [ldep] at hj; omega) (fun j h1 h2 => by
        unfold lvs
        rcases (by omega : j = 1 ∨ j = 2 ∨ j = 3 ∨ j = 4 ∨ j = 5 ∨ j = 6) with rfl | rfl | rfl | rfl | rfl | rfl <;> rfl) (by omega)
      refine ⟨M, ?_, fun x y h => ?_⟩
      · simp (disch := omega) only [xi_t, xn_k, xn_lt, xn_eq, xn_mul, xn_add, xn_sub, xn_dec, xn_m1, xn_1m, if_pos, if_neg, if_true, if_false, cond_true, cond_false, true_and, and_true, false_and, and_false, xr_cI_s, xr_cV_s, xr_cI_e, xr_cV_e, xm_xs, xs_xs, L.1]
        rw [xe54]
        rw [show ldep kd 0 = 0 from rfl] at eM
        rw [eM, xr_cI_s, lcl_eq _ _ (by omega)]
        rfl
      · rw [F x y (by omega), xm_xs, xw_r (by omega), xw_r (by omega), xw_r (by omega), xw_r (by omega), xw_r (by omega), xw_r (by omega)]
theorem lm187L (V : xLv sz kd) : ∀ (n k : Nat) (S : xr_S), k + n = sz → xLm (xm S) sz kd gv → (∀ j, j < ldep kd k → xm S 0 86 j = lstk kd gv lv k j) → (∀ j, 1 ≤ j → j < 7 → xm S 0 87 (j - 1) = lv j) → 0 < sz → ∃ M, xr_Run (d + 2) 187 13 [xP 0 69, xI (nI (ldep kd k)), xI (nI k)] [] ([], w) S = some (.inl (some (lstk kd gv lv sz 0)), ([], w), xs S M) ∧ ∀ b e, ¬ (b = 0 ∧ e = 86) → M b e = xm S b e := by
  intro n
  induction n with
  | zero =>
    intro k S hk L hs hl hz
    refine ⟨xm S, ?_, fun _ _ _ => rfl⟩
    have h1 := ldep_pos V sz hz (Nat.le_refl _)
    have e : k = sz := by omega
    subst e
    have h0 := hs 0 (by omega)
    obtain ⟨l0, l1⟩ := L
    have v0 := V.1
    refine (xg187_13 _ _ _ _ _).trans ?_
    simp (disch := omega) only [xi_t, xn_k, xn_lt, xn_eq, xn_mul, xn_add, xn_sub, xn_dec, xn_m1, xn_1m, if_pos, if_neg, if_true, if_false, cond_true, cond_false, true_and, and_true, false_and, and_false, xr_cI_s, xr_cV_s, xr_cI_e, xr_cV_e, xm_xs, xs_xs, l0, h0, xs_xm]
  | succ n ih =>
    intro k S hk L hs hl hz
    have L' := L
    obtain ⟨l0, l1⟩ := L
    have v0 := V.1
    obtain ⟨v1, v2⟩ := V.2 k (by omega)
    have dl := ldep_le kd k
    obtain ⟨e1, e2, e3⟩ := l1 k (by omega)
    have hst : lstk kd gv lv (k + 1) = if kd k = 0 then xu (lstk kd gv lv k) (ldep kd k) (gv k) else if kd k < 7 then xu (lstk kd gv lv k) (ldep kd k) (lv (kd k)) else xu (lstk kd gv lv k) (ldep kd k - 2) (ljoin (kd k) (lstk kd gv lv k (ldep kd k - 2)) (lstk kd gv lv k (ldep kd k - 1))) := rfl
    have hdp : ldep kd (k + 1) = if kd k < 7 then ldep kd k + 1 else ldep kd k - 1 := rfl
    have step : ∀ (pos : Nat) (x : Int32), (∀ j, j < ldep kd (k + 1) → xu (xm S 0 86) pos x j = lstk kd gv lv (k + 1) j) → (∀ M, xr_Run (d + 2) 187 13 [xP 0 69, xI (nI (ldep kd (k + 1))), xI (nI (k + 1))] [] ([], w) (xs S (xw (xm S) 0 86 pos x)) = M → xr_Run (d + 2) 187 13 [xP 0 69, xI (nI (ldep kd k)), xI (nI k)] [] ([], w) S = M) → ∃ M, xr_Run (d + 2) 187 13 [xP 0 69, xI (nI (ldep kd k)), xI (nI k)] [] ([], w) S = some (.inl (some (lstk kd gv lv sz 0)), ([], w), xs S M) ∧ ∀ b e, ¬ (b = 0 ∧ e = 86) → M b e = xm S b e := by
      intro pos x hpos hrun
      obtain ⟨M, eM, F⟩ := ih (k + 1) (xs S (xw (xm S) 0 86 pos x)) (by omega) (xLm_fr (fun k => by rw [xm_xs, xw_r (by omega)]) (by rw [xm_xs, xw_n (by omega)]) L') (fun j hj => by rw [xm_xs, xw_u]; exact hpos j hj) (fun j h1 h2 => by rw [xm_xs, xw_n (by omega)]; exact hl j h1 h2) hz
      refine ⟨M, hrun _ eM, fun b e q => ?_⟩
      rw [F b e q, xm_xs, xw_r q]
    by_cases q0 : kd k = 0
    · obtain ⟨a1, a2⟩ := e1 q0
      refine step (ldep kd k) (gv k) (fun j hj => ?_) (fun M hM => ?_)
      · rw [hst, if_pos q0]
        rw [hdp, if_pos (by omega)] at hj
        unfold xu
        split
        · rfl
        · exact hs j (by omega)
      · rw [← hM]
        refine (xg187_13 _ _ _ _ _).trans ?_
        simp (disch := omega) only [xi_t, xn_k, xn_lt, xn_eq, xn_mul, xn_add, xn_sub, xn_dec, xn_m1, xn_1m, if_pos, if_neg, if_true, if_false, cond_true, cond_false, true_and, and_true, false_and, and_false, xr_cI_s, xr_cV_s, xr_cI_e, xr_cV_e, xm_xs, xs_xs, l0, a1, a2, hdp]
    · by_cases q7 : kd k < 7
      · obtain ⟨a1, a2⟩ := e2 (by omega) q7
        refine step (ldep kd k) (lv (kd k)) (fun j hj => ?_) (fun M hM => ?_)
        · rw [hst, if_neg q0, if_pos q7]
          rw [hdp, if_pos q7] at hj
          unfold xu
          split
          · rfl
          · exact hs j (by omega)
        · rw [← hM]
          refine (xg187_13 _ _ _ _ _).trans ?_
          simp (disch := omega) only [xi_t, xn_k, xn_lt, xn_eq, xn_mul, xn_add, xn_sub, xn_dec, xn_m1, xn_1m, if_pos, if_neg, if_true, if_false, cond_true, cond_false, true_and, and_true, false_and, and_false, xr_cI_s, xr_cV_s, xr_cI_e, xr_cV_e, xm_xs, xs_xs, l0, a1, a2, hl (kd k) (by omega) q7, hdp]
      · have v3 := v2 (by omega)
        have a1 := e3 (by omega)
        refine step (ldep kd k - 2) (ljoin (kd k) (lstk kd gv lv k (ldep kd k - 2)) (lstk kd gv lv k (ldep kd k - 1))) (fun j hj => ?_) (fun M hM => ?_)
        · rw [hst, if_neg q0, if_neg q7]
          rw [hdp, if_neg q7] at hj
          unfold xu
          split
          · rfl
          · exact hs j (by omega)
        · rw [← hM]
          refine (xg187_13 _ _ _ _ _).trans ?_
          have s1 := hs (ldep kd k - 1) (by omega)
          have s2 := hs (ldep kd k - 2) (by omega)
          simp (disch := omega) only [xi_t, xn_k, xn_lt, xn_eq, xn_mul, xn_add, xn_sub, xn_dec, xn_m1, xn_1m, if_pos, if_neg, if_true, if_false, cond_true, cond_false, true_and, and_true, false_and, and_false, xr_cI_s, xr_cV_s, xr_cI_e, xr_cV_e, xm_xs, xs_xs, l0, a1, hdp]
          rw [xg187_80]
          simp (disch := omega) only [xi_t, xn_k, xn_lt, xn_eq, xn_mul, xn_add, xn_sub, xn_dec, xn_m1, xn_1m, if_pos, if_neg, if_true, if_false, cond_true, cond_false, true_and, and_true, false_and, and_false, xr_cI_s, xr_cV_s, xr_cI_e, xr_cV_e, xm_xs, xs_xs]
          rw [xg187_90]
          simp (disch := omega) only [xi_t, xn_k, xn_lt, xn_eq, xn_mul, xn_add, xn_sub, xn_dec, xn_m1, xn_1m, if_pos, if_neg, if_true, if_false, cond_true, cond_false, true_and, and_true, false_and, and_false, xr_cI_s, xr_cV_s, xr_cI_e, xr_cV_e, xm_xs, xs_xs, a1]
          rw [xg187_112, show ldep kd k - 1 - 1 = ldep kd k - 2 by omega, s1, s2, lm186 (by omega) v1, xr_cI_s, xg187_115]
          simp (disch := omega) only [xi_t, xn_k, xn_lt, xn_eq, xn_mul, xn_add, xn_sub, xn_dec, xn_m1, xn_1m, if_pos, if_neg, if_true, if_false, cond_true, cond_false, true_and, and_true, false_and, and_false, xr_cI_s, xr_cV_s, xr_cI_e, xr_cV_e, xm_xs, xs_xs]
theorem lm207 (V : xLv sz kd) (L : xLm (xm S) sz kd gv) {a : Nat} (ha : a < 1000) (b c e f g : Int32) : ∃ M, xr_Call (d + 4) 207 [xP 0 69, xI (nI a), xI b, xI c, xI e, xI f, xI g] ([], w) S = some (.inl (some (nI (lwear sz kd gv a b c e f g))), ([], w), xs S M) ∧ ∀ x y, ¬ (x = 0 ∧ (y = 86 ∨ y = 87)) → M x y = xm S x y := by
  rw [xe207]
  have v0 := V.1
  unfold lwear
  have fin : ∀ (x : Int32) (S' : xr_S), xr_cI ([], w) (xr_Call (d + 3) 153 [xI (nI a), xI x] ([], w) S') (fun x4 S3 => xr_cI ([], w) (xr_Call (d + 3) 154 [xI (nI 0), xI x4] ([], w) S3) (fun x6 S5 => some (.inl (some x6), ([], w), S5))) = some (.inl (some (nI (lcl x a))), ([], w), S') := by
    intro x S'
    rw [xe153]
    rw [← lcl_eq x a (by omega)]
    by_cases q : nI a < x
    · have q2 : ¬ x < nI a := by
        rw [Int32.lt_iff_toInt_lt] at q ⊢; omega
      rw [if_pos q, if_neg q2, xr_cI_s, xe154]
      by_cases q3 : nI a < nI 0
      · rw [xn_lt (by omega) (by omega)] at q3; omega
      · rw [if_neg q3, xr_cI_s]
        simp (disch := omega) only [xn_lt]
        by_cases q4 : 0 < a
        · rw [if_pos q4]
        · rw [if_neg q4, show a = 0 by omega]
    · rw [if_neg q, xr_cI_s, xe154]
      have q5 : (if x < nI a then x else nI a) = x := by
        by_cases q6 : x < nI a
        · rw [if_pos q6]
        · rw [if_neg q6]
          rw [Int32.lt_iff_toInt_lt] at q q6
          exact Int32.toInt_inj.mp (by omega)
      rw [q5]
      by_cases q3 : x < nI 0
      · have q4 : ¬ nI 0 < x := by
          rw [Int32.lt_iff_toInt_lt] at q3 ⊢; omega
        rw [if_pos q3, if_neg q4, xr_cI_s]
      · rw [if_neg q3, xr_cI_s]
        by_cases q4 : nI 0 < x
        · rw [if_pos q4]
        · rw [if_neg q4]
          rw [Int32.lt_iff_toInt_lt] at q3 q4
          rw [Int32.toInt_inj.mp (by omega : x.toInt = (nI 0).toInt)]
  by_cases q2 : sz = 0
  · refine ⟨xw (xw (xw (xw (xw (xw (xm S) 0 87 0 (nI a)) 0 87 1 b) 0 87 2 c) 0 87 3 e) 0 87 4 f) 0 87 5 g, ?_, fun x y h => ?_⟩
    · unfold leval
      have e0 : xw (xw (xw (xw (xw (xw (xm S) 0 87 0 (nI a)) 0 87 1 b) 0 87 2 c) 0 87 3 e) 0 87 4 f) 0 87 5 g 0 69 21 = nI sz := by
        rw [xw_n (by omega), xw_n (by omega), xw_n (by omega), xw_n (by omega), xw_n (by omega), xw_n (by omega)]; exact L.1
      simp (disch := omega) only [xe187, xi_t, xn_k, xn_lt, xn_eq, xn_mul, xn_add, xn_sub, xn_dec, xn_m1, xn_1m, if_pos, if_neg, if_true, if_false, cond_true, cond_false, true_and, and_true, false_and, and_false, xr_cI_s, xr_cV_s, xr_cI_e, xr_cV_e, xm_xs, xs_xs, e0, fin]
    · rw [xw_r (by omega), xw_r (by omega), xw_r (by omega), xw_r (by omega), xw_r (by omega), xw_r (by omega)]
  · unfold leval
    rw [if_neg q2]
    obtain ⟨M, eM, F⟩ := lm187L (d := d) (w := w) (gv := gv) (lv := lvs (nI a) b c e f g) V sz 0 (xs S (xw (xw (xw (xw (xw (xw (xm S) 0 87 0 (nI a)) 0 87 1 b) 0 87 2 c) 0 87 3 e) 0 87 4 f) 0 87 5 g)) (by omega) (xLm_fr (fun e => by rw [xm_xs, xw_r (by omega), xw_r (by omega), xw_r (by omega), xw_r (by omega), xw_r (by omega), xw_r (by omega)]) (by rw [xm_xs, xw_n (by omega), xw_n (by omega), xw_n (by omega), xw_n (by omega), xw_n (by omega), xw_n (by omega)]) L) (fun j hj => by rw [ldep] at hj; omega) (fun j h1 h2 => by
      unfold lvs
      rcases (by omega : j = 1 ∨ j = 2 ∨ j = 3 ∨ j = 4 ∨ j = 5 ∨ j = 6) with rfl | rfl | rfl | rfl | rfl | rfl <;> rfl) (by omega)
    refine ⟨M, ?_, fun x y h => ?_⟩
    · rw [show ldep kd 0 = 0 from rfl] at eM
      have e0 : xw (xw (xw (xw (xw (xw (xm S) 0 87 0 (nI a)) 0 87 1 b) 0 87 2 c) 0 87 3 e) 0 87 4 f) 0 87 5 g 0 69 21 = nI sz := by
        rw [xw_n (by omega), xw_n (by omega), xw_n (by omega), xw_n (by omega), xw_n (by omega), xw_n (by omega)]; exact L.1
      simp (disch := omega) only [xe187, xi_t, xn_k, xn_lt, xn_eq, xn_mul, xn_add, xn_sub, xn_dec, xn_m1, xn_1m, if_pos, if_neg, if_true, if_false, cond_true, cond_false, true_and, and_true, false_and, and_false, xr_cI_s, xr_cV_s, xr_cI_e, xr_cV_e, xm_xs, xs_xs, e0]
      rw [eM, xr_cI_s, fin]
      rfl
    · rw [F x y (by omega), xm_xs, xw_r (by omega), xw_r (by omega), xw_r (by omega), xw_r (by omega), xw_r (by omega), xw_r (by omega)]
end
