/-! QUESTIONS: refusals, what is kept -/
abbrev xMd : xr_N := ([], [35, 44, 53, 58, 63, 66])
abbrev xNS : String := "java/util/NoSuchElementException"
abbrev xIA : String := "java/lang/IllegalArgumentException"
/-- the number a is one of lo .. hi -/
def xrg (a : Int32) (lo hi : Nat) : Prop := ∃ k, lo ≤ k ∧ k ≤ hi ∧ a = nI k
/-- the number a is one of 0 .. n - 1 -/
def xrl (a : Int32) (n : Nat) : Prop := ∃ k, k < n ∧ a = nI k
theorem xi_ex {a : Int32} (h : ¬ a < nI 0) : ∃ k, k < 2147483648 ∧ a = nI k := by
  rw [Int32.lt_iff_toInt_lt, nI_toInt (by omega)] at h
  have := a.toInt_lt
  refine ⟨a.toInt.toNat, by omega, Int32.toInt_inj.mp ?_⟩
  rw [nI_toInt (by omega)]
  omega
theorem xrl_no {a : Int32} {n : Nat} (hn : n < 2147483648) (h : ¬ xrl a n) : a < nI 0 ∨ (¬ a < nI 0 ∧ ¬ a < nI n) := by
  by_cases q : a < nI 0
  · exact Or.inl q
  · refine Or.inr ⟨q, fun q2 => h ?_⟩
    obtain ⟨k, hk, rfl⟩ := xi_ex q
    rw [xn_lt hk hn] at q2
    exact ⟨k, q2, rfl⟩
theorem xrg_no {a : Int32} {lo hi : Nat} (hn : hi < 2147483648) (hl : lo < 2147483648) (h : ¬ xrg a lo hi) : a < nI lo ∨ (¬ a < nI lo ∧ nI hi < a) := by
  by_cases q : a < nI lo
  · exact Or.inl q
  · refine Or.inr ⟨q, ?_⟩
    have q0 : ¬ a < nI 0 := fun q0 => q (by
      rw [Int32.lt_iff_toInt_lt, nI_toInt (by omega)] at q0 ⊢
      omega)
    obtain ⟨k, hk, rfl⟩ := xi_ex q0
    rw [xn_lt hk hl] at q
    rw [xn_lt hn hk]
    refine Nat.lt_of_not_le (fun q2 => h ⟨k, by omega, q2, rfl⟩)
theorem xrl_sub {a : Int32} {n : Nat} (hn : n < 100000000) : (xrl a n → ¬ a < nI 0 ∧ ¬ nI n - nI 1 < a) ∧ (¬ xrl a n → a < nI 0 ∨ (¬ a < nI 0 ∧ nI n - nI 1 < a)) := by
  have e : ∀ k, k < 2147483648 → (nI n - nI 1 < nI k ↔ n ≤ k) := by
    intro k hk
    have e : nI n - nI 1 = Int32.ofInt ((n : Int) - (1 : Int)) := by
      rw [Int32.ofInt_sub, Int32.ofInt_eq_ofNat]; rfl
    rw [e, Int32.lt_iff_toInt_lt, nI_toInt hk, Int32.toInt_ofInt_of_le (by omega) (by omega)]
    omega
  constructor
  · rintro ⟨k, hk, rfl⟩
    exact ⟨by rw [xn_lt (by omega) (by omega)]; omega, fun q => by have := (e k (by omega)).mp q; omega⟩
  · intro h
    rcases xrl_no (by omega) h with q | ⟨q, q2⟩
    · exact Or.inl q
    · refine Or.inr ⟨q, ?_⟩
      obtain ⟨k, hk, rfl⟩ := xi_ex q
      rw [xn_lt hk (by omega)] at q2
      exact (e k hk).mpr (by omega)
section
variable {d : Nat} {w : List Nat} {S : xr_S}
theorem qc140y {k n : Nat} (h : k < n) (hn : n < 2147483648) : xr_Call (d + 1) 140 [xP 0 0, xI (nI k), xI (nI n)] xMd S = some (.inl none, xMd, S) := by
  rw [xe140]; simp (disch := omega) only [xi_t, xn_k, xn_lt, xn_eq, xn_mul, xn_add, xn_sub, xn_dec, xn_m1, xn_1m, if_pos, if_neg, if_true, if_false, cond_true, cond_false, true_and, and_true, false_and, and_false, xr_cI_s, xr_cV_s, xr_cI_e, xr_cV_e, xm_xs, xs_xs]
theorem qc140n {a : Int32} {n : Nat} (hn : n < 2147483648) (h : ¬ xrl a n) : xr_Call (d + 1) 140 [xP 0 0, xI a, xI (nI n)] xMd S = some (.inr xNS, xMd, xr_ex (xs S (xw (xm S) 0 0 17 (xm S 0 0 17 + nI 1)))) := by
  rw [xe140]
  rcases xrl_no hn h with q | ⟨q, q2⟩
  · rw [if_pos q]
  · rw [if_neg q, if_neg q2]
theorem qc141y {k lo hi : Nat} (h1 : lo ≤ k) (h : k ≤ hi) (hn : hi < 2147483648) : xr_Call (d + 1) 141 [xP 0 0, xI (nI k), xI (nI lo), xI (nI hi)] xMd S = some (.inl none, xMd, S) := by
  rw [xe141]; simp (disch := omega) only [xi_t, xn_k, xn_lt, xn_eq, xn_mul, xn_add, xn_sub, xn_dec, xn_m1, xn_1m, if_pos, if_neg, if_true, if_false, cond_true, cond_false, true_and, and_true, false_and, and_false, xr_cI_s, xr_cV_s, xr_cI_e, xr_cV_e, xm_xs, xs_xs]
theorem qc141n {a : Int32} {lo hi : Nat} (hn : hi < 2147483648) (hl : lo < 2147483648) (h : ¬ xrg a lo hi) : xr_Call (d + 1) 141 [xP 0 0, xI a, xI (nI lo), xI (nI hi)] xMd S = some (.inr xIA, xMd, xr_ex (xs S (xw (xm S) 0 0 18 (xm S 0 0 18 + nI 1)))) := by
  rw [xe141]
  rcases xrg_no hn hl h with q | ⟨q, q2⟩
  · rw [if_pos q]
  · rw [if_neg q, if_pos q2]
theorem qm152y {k lo hi : Nat} (h1 : lo ≤ k) (h : k ≤ hi) (hn : hi < 2147483648) : xr_Call (d + 1) 152 [xI (nI k), xI (nI lo), xI (nI hi)] ([], w) S = some (.inl (some (nI 1)), ([], w), S) := by
  rw [xe152]; simp (disch := omega) only [xi_t, xn_k, xn_lt, xn_eq, xn_mul, xn_add, xn_sub, xn_dec, xn_m1, xn_1m, if_pos, if_neg, if_true, if_false, cond_true, cond_false, true_and, and_true, false_and, and_false, xr_cI_s, xr_cV_s, xr_cI_e, xr_cV_e, xm_xs, xs_xs]
theorem qm152n {a : Int32} {lo hi : Nat} (hn : hi < 2147483648) (hl : lo < 2147483648) (h : ¬ xrg a lo hi) : xr_Call (d + 1) 152 [xI a, xI (nI lo), xI (nI hi)] ([], w) S = some (.inl (some (nI 0)), ([], w), S) := by
  rw [xe152]
  rcases xrg_no hn hl h with q | ⟨q, q2⟩
  · rw [if_pos q]
  · rw [if_neg q, if_pos q2]
theorem qm152l {k n : Nat} (h : k < n) (hn : n < 100000000) : xr_Call (d + 1) 152 [xI (nI k), xI (nI 0), xI (nI n - nI 1)] ([], w) S = some (.inl (some (nI 1)), ([], w), S) := by
  rw [xe152]
  obtain ⟨q1, q2⟩ := (xrl_sub hn).1 ⟨k, h, rfl⟩
  rw [if_neg q1, if_neg q2]
theorem qm152m {a : Int32} {n : Nat} (hn : n < 100000000) (h : ¬ xrl a n) : xr_Call (d + 1) 152 [xI a, xI (nI 0), xI (nI n - nI 1)] ([], w) S = some (.inl (some (nI 0)), ([], w), S) := by
  rw [xe152]
  rcases (xrl_sub hn).2 h with q | ⟨q, q2⟩
  · rw [if_pos q]
  · rw [if_neg q, if_pos q2]
theorem xok1 : xr_ok 1 (nI 1) = true := by decide
theorem xok0 : xr_ok 1 (nI 0) = true := by decide
theorem qm217y {k n : Nat} (h : k < n) (hn : n < 100000000) (e : xm S 0 73 0 = nI n) : xr_Call (d + 2) 217 [xP 0 69, xI (nI k)] ([], w) S = some (.inl (some (nI 1)), ([], w), S) := by
  rw [xe217]; simp (disch := omega) only [xi_t, xn_k, cond_true, xr_cI_s, e, qm152l h hn, xok1]
theorem qm217n {a : Int32} {n : Nat} (hn : n < 100000000) (e : xm S 0 73 0 = nI n) (h : ¬ xrl a n) : xr_Call (d + 2) 217 [xP 0 69, xI a] ([], w) S = some (.inl (some (nI 0)), ([], w), S) := by
  rw [xe217]; simp (disch := omega) only [xi_t, xn_k, cond_true, xr_cI_s, e, qm152m hn h, xok0]
theorem qm218y {k n : Nat} (h : k < n) (hn : n < 100000000) (e : xm S 0 73 1 = nI n) : xr_Call (d + 2) 218 [xP 0 69, xI (nI k)] ([], w) S = some (.inl (some (nI 1)), ([], w), S) := by
  rw [xe218]; simp (disch := omega) only [xi_t, xn_k, cond_true, xr_cI_s, e, qm152l h hn, xok1]
theorem qm218n {a : Int32} {n : Nat} (hn : n < 100000000) (e : xm S 0 73 1 = nI n) (h : ¬ xrl a n) : xr_Call (d + 2) 218 [xP 0 69, xI a] ([], w) S = some (.inl (some (nI 0)), ([], w), S) := by
  rw [xe218]; simp (disch := omega) only [xi_t, xn_k, cond_true, xr_cI_s, e, qm152m hn h, xok0]
theorem qm219y {k n : Nat} (h : k < 2 * n) (hn : n < 10000000) (e : xm S 0 73 1 = nI n) : xr_Call (d + 2) 219 [xP 0 69, xI (nI k)] ([], w) S = some (.inl (some (nI 1)), ([], w), S) := by
  rw [xe219]
  have h9 := qm152l (d := d) (w := w) (S := S) h (by omega)
  simp (disch := omega) only [xi_t, xn_k, cond_true, e, xn_mul, h9, xok1, xr_cI_s]
theorem qm219n {a : Int32} {n : Nat} (hn : n < 10000000) (e : xm S 0 73 1 = nI n) (h : ¬ xrl a (2 * n)) : xr_Call (d + 2) 219 [xP 0 69, xI a] ([], w) S = some (.inl (some (nI 0)), ([], w), S) := by
  rw [xe219]
  have h9 := qm152m (d := d) (w := w) (S := S) (by omega) h
  simp (disch := omega) only [xi_t, xn_k, cond_true, e, xn_mul, h9, xok0, xr_cI_s]
theorem qm220y {k : Nat} (h : k ≤ 7) : xr_Call (d + 2) 220 [xI (nI k)] ([], w) S = some (.inl (some (nI 1)), ([], w), S) := by
  rw [xe220]; simp (disch := omega) only [xi_t, xn_k, xn_lt, xn_eq, xn_mul, xn_add, xn_sub, xn_dec, xn_m1, xn_1m, if_pos, if_neg, if_true, if_false, cond_true, cond_false, true_and, and_true, false_and, and_false, xr_cI_s, xr_cV_s, xr_cI_e, xr_cV_e, xm_xs, xs_xs, qm152y (Nat.zero_le k) h (by omega), xok1]
theorem qm220n {a : Int32} (h : ¬ xrg a 0 7) : xr_Call (d + 2) 220 [xI a] ([], w) S = some (.inl (some (nI 0)), ([], w), S) := by
  rw [xe220]; simp (disch := omega) only [xi_t, xn_k, xn_lt, xn_eq, xn_mul, xn_add, xn_sub, xn_dec, xn_m1, xn_1m, if_pos, if_neg, if_true, if_false, cond_true, cond_false, true_and, and_true, false_and, and_false, xr_cI_s, xr_cV_s, xr_cI_e, xr_cV_e, xm_xs, xs_xs, qm152n (by omega) (by omega) h, xok0]
theorem qm151f (v u : Int32) (e : xm S 0 69 0 = nI 0) : xr_Call (d + 1) 151 [xP 0 69, xI (nI 0), xI v, xI u] ([], w) S = some (.inl (some (nI 0)), ([], w), S) := by
  rw [xe151]; simp (disch := omega) only [xi_t, xn_k, xn_lt, xn_eq, xn_mul, xn_add, xn_sub, xn_dec, xn_m1, xn_1m, if_pos, if_neg, if_true, if_false, cond_true, cond_false, true_and, and_true, false_and, and_false, xr_cI_s, xr_cV_s, xr_cI_e, xr_cV_e, xm_xs, xs_xs, e]
theorem qm151t {t r : Nat} (ht : 1 ≤ t) (ht2 : t < 100) (hr : r < 2) (e : xm S 0 69 0 = nI 0) : xr_Call (d + 1) 151 [xP 0 69, xI (nI 1), xI (nI t), xI (nI r)] ([], w) S = some (.inl (some (nI 1)), ([], w), xs S (xw (xw (xm S) 0 69 0 (nI t)) 0 71 r (xm S 0 71 r + nI 1))) := by
  rw [xe151]; simp (disch := omega) only [xi_t, xn_k, xn_lt, xn_eq, xn_mul, xn_add, xn_sub, xn_dec, xn_m1, xn_1m, if_pos, if_neg, if_true, if_false, cond_true, cond_false, true_and, and_true, false_and, and_false, xr_cI_s, xr_cV_s, xr_cI_e, xr_cV_e, xm_xs, xs_xs, e, xw_y, xw_n]
end
/-- what no question changes -/
def xKp (M M' : xr_M) : Prop := (∀ b e, ¬ (b = 0 ∧ (e = 69 ∨ (12 ≤ e ∧ e ≤ 20) ∨ (27 ≤ e ∧ e ≤ 33) ∨ e = 56 ∨ e = 57 ∨ e = 65 ∨ e = 86 ∨ e = 87 ∨ e = 90 ∨ e = 93 ∨ e = 94)) → M' b e = M b e) ∧ ∀ k, 1 ≤ k → k ≤ 38 → M' 0 69 k = M 0 69 k
theorem xKp_rf (M : xr_M) : xKp M M := ⟨fun _ _ _ => rfl, fun _ _ _ => rfl⟩
theorem xKp_t (M : xr_M) (v : Int32) : xKp M (xw M 0 69 0 v) := ⟨fun b e h => by rw [xw_r (by omega)], fun k h1 h2 => by rw [xw_n (by omega)]⟩
theorem xKp_tr {M M' M'' : xr_M} (h : xKp M M') (h' : xKp M' M'') : xKp M M'' := ⟨fun b e q => (h'.1 b e q).trans (h.1 b e q), fun k h1 h2 => (h'.2 k h1 h2).trans (h.2 k h1 h2)⟩
def qOk (d i j : Nat) (as : List xr_V) (S : xr_S) (r : Int32) : Prop := ∃ M1 M2, xr_Call (d + 60) i (xP 0 0 :: as) xMd S = some (.inl (some r), xMd, xs S M1) ∧ xr_Call (d + 60) j (xP 0 69 :: as) xMd (xs S M1) = some (.inl (some r), xMd, xs S M2) ∧ M2 0 69 0 = nI 0 ∧ xKp (xm S) M2
def qNo (d i j : Nat) (as : List xr_V) (S : xr_S) (E : String) (t f r : Nat) : Prop := ∃ v, xr_Call (d + 60) i (xP 0 0 :: as) xMd S = some (.inr E, xMd, xr_ex (xs S (xw (xm S) 0 0 f (xm S 0 0 f + nI 1)))) ∧ xr_Call (d + 60) j (xP 0 69 :: as) xMd (xr_ex (xs S (xw (xm S) 0 0 f (xm S 0 0 f + nI 1)))) = some (.inl (some v), xMd, xr_ex (xs S (xw (xw (xw (xm S) 0 0 f (xm S 0 0 f + nI 1)) 0 69 0 (nI t)) 0 71 r (xm S 0 71 r + nI 1))))
/-- class i and model j answer alike -/
def qRes (d i j : Nat) (as : List xr_V) (S : xr_S) (tN tI : Nat) : Prop := (∃ r, qOk d i j as S r) ∨ (1 ≤ tN ∧ qNo d i j as S xNS tN 17 0) ∨ (1 ≤ tI ∧ qNo d i j as S xIA tI 18 1)
theorem xs_ex (S : xr_S) (M : xr_M) : xs (xr_ex S) M = xr_ex (xs S M) := rfl
theorem xm_ex (S : xr_S) : xm (xr_ex S) = xm S := rfl
theorem xw_xw (M : xr_M) (b c k : Nat) (v u : Int32) : xw (xw M b c k v) b c k u = xw M b c k u := by
  funext b' c' k'
  unfold xw
  split <;> rfl
/-- the model's refusal, from behind the class's -/
theorem qNo_of {d i j : Nat} {as : List xr_V} {S : xr_S} {E : String} {t f r : Nat} (v : Int32) (hr : r < 2) (c : xr_Call (d + 60) i (xP 0 0 :: as) xMd S = some (.inr E, xMd, xr_ex (xs S (xw (xm S) 0 0 f (xm S 0 0 f + nI 1))))) (m : ∀ T : xr_S, xm T = xw (xm S) 0 0 f (xm S 0 0 f + nI 1) → xr_Call (d + 60) j (xP 0 69 :: as) xMd T = some (.inl (some v), xMd, xs T (xw (xw (xw (xm T) 0 69 0 (nI 0)) 0 69 0 (nI t)) 0 71 r (xw (xm T) 0 69 0 (nI 0) 0 71 r + nI 1)))) : qNo d i j as S E t f r := by
  refine ⟨v, c, ?_⟩
  rw [m _ rfl, xs_ex, xs_xs, xm_ex, xm_xs, xw_xw, xw_n (by omega), xw_n (by omega)]
