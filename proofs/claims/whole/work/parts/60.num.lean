/-! NUMBERS AND LOOPS of the named-cell machine -/
theorem xn_add (a b : Nat) : nI a + nI b = nI (a + b) := nI_add a b
theorem xn_mul (a b : Nat) : nI a * nI b = nI (a * b) := (Int32.ofNat_mul a b).symm
theorem xn_sub {a b : Nat} (h : b ≤ a) : nI a - nI b = nI (a - b) := by
  have e : nI a = nI (a - b) + nI b := by rw [xn_add, Nat.sub_add_cancel h]
  rw [e, Int32.add_sub_cancel]
theorem xn_lt {a b : Nat} (ha : a < 2147483648) (hb : b < 2147483648) : (nI a < nI b) = (a < b) := propext (nI_ltI ha hb)
theorem xn_le {a b : Nat} (ha : a < 2147483648) (hb : b < 2147483648) : (nI a ≤ nI b) = (a ≤ b) := propext (nI_leI ha hb)
theorem xn_eq {a b : Nat} (ha : a < 2147483648) (hb : b < 2147483648) : (nI a = nI b) = (a = b) := propext (nI_eq ha hb)
theorem xn_k {a : Nat} (ha : a < 2147483648) : xk (nI a) = a := nI_clamp ha
theorem xn_in {a n : Nat} (ha : a < 2147483648) : xr_in (nI a) n = decide (a < n) := by
  unfold xr_in
  rw [nI_toInt ha]
  by_cases h : a < n
  · rw [decide_eq_true h]; exact decide_eq_true ⟨by omega, by omega⟩
  · rw [decide_eq_false h]; exact decide_eq_false (by omega)
theorem xn_neg {a : Nat} (ha : a < 2147483648) {n : Nat} (hn : 0 < n) (hn2 : n ≤ 2147483648) : (nI a = Int32.ofInt (-(n : Int))) = False := by
  refine eq_false (fun h => ?_)
  have h1 := congrArg Int32.toInt h
  rw [nI_toInt ha, Int32.toInt_ofInt_of_le (by omega) (by omega)] at h1
  omega
theorem xn_m1 {a : Nat} (ha : a < 2147483648) : (nI a = -1) = False := eq_false (fun h => by
  have h1 := congrArg Int32.toInt h
  rw [nI_toInt ha] at h1
  have : (-1 : Int32).toInt = -1 := by decide
  omega)
theorem xn_1m {a : Nat} (ha : a < 2147483648) : ((-1 : Int32) = nI a) = False := eq_false (fun h => by
  have := xn_m1 ha
  rw [h] at this
  simp at this)
theorem xn_dec (a : Nat) (h : 0 < a) : nI a + -1 = nI (a - 1) := by
  have e : nI a = nI (a - 1) + nI 1 := by rw [xn_add, Nat.sub_add_cancel h]
  rw [e, Int32.add_assoc]
  have : nI 1 + -1 = 0 := by decide
  rw [this, Int32.add_zero]
theorem xn_div {a b : Nat} (ha : a < 2147483648) (hb0 : 0 < b) (hb : b < 2147483648) : nI a / nI b = nI (a / b) := by
  apply Int32.toInt_inj.mp
  have h1 : a / b < 2147483648 := Nat.lt_of_le_of_lt (Nat.div_le_self a b) ha
  rw [Int32.toInt_div_of_ne_right _ _ (fun h9 => (xn_m1 hb).mp h9), nI_toInt ha, nI_toInt hb, nI_toInt h1]
  rw [Int.tdiv_eq_ediv_of_nonneg (by omega)]
  omega
theorem xw_ap (M : xr_M) (b c k : Nat) (v : Int32) (b' c' k' : Nat) : xw M b c k v b' c' k' = if b' = b ∧ c' = c ∧ k' = k then v else M b' c' k' := rfl
theorem xcp_ap (M : xr_M) (b c s b1 c1 t n b' c' k' : Nat) : xcp M b c s b1 c1 t n b' c' k' = if b' = b1 ∧ c' = c1 ∧ t ≤ k' ∧ k' < t + n then M b c (s + (k' - t)) else M b' c' k' := rfl
theorem xm_xs (S : xr_S) (M : xr_M) : xm (xs S M) = M := rfl
theorem xs_xs (S : xr_S) (M M' : xr_M) : xs (xs S M) M' = xs S M' := rfl
theorem xs_xm (S : xr_S) : xs S (xm S) = S := rfl
theorem xr_cI_s (m : xr_N) (x : Int32) (S : xr_S) (f : Int32 → xr_S → xr_R) : xr_cI m (some (.inl (some x), m, S)) f = f x S := by
  unfold xr_cI; simp
theorem xr_cV_s (m : xr_N) (S : xr_S) (f : xr_S → xr_R) : xr_cV m (some (.inl none, m, S)) f = f S := by
  unfold xr_cV; simp
theorem xr_cI_e (m : xr_N) (E : String) (S : xr_S) (f : Int32 → xr_S → xr_R) : xr_cI m (some (.inr E, m, S)) f = some (.inr E, m, S) := by
  unfold xr_cI; simp
theorem xr_cV_e (m : xr_N) (E : String) (S : xr_S) (f : xr_S → xr_R) : xr_cV m (some (.inr E, m, S)) f = some (.inr E, m, S) := by
  unfold xr_cV; simp
/-- a loop whose state at its k-th turn is known -/
theorem xl_up {α : Type} {T : Nat → α} {n : Nat} (h : ∀ k, k < n → T k = T (k + 1)) : T 0 = T n := by
  induction n with
  | zero => rfl
  | succ n ih => rw [ih (fun k hk => h k (Nat.lt_succ_of_lt hk)), h n (Nat.lt_succ_self n)]
/-- the first k below n with c k, from j on -/
def xfst (c : Nat → Bool) : Nat → Nat → Option Nat
  | 0, _ => none
  | n + 1, j => cond (c j) (some j) (xfst c n (j + 1))
theorem xl_fstF {α : Type} {T R : Nat → α} {c : Nat → Bool} : ∀ (n j : Nat), (∀ k, j ≤ k → k < j + n → T k = cond (c k) (R k) (T (k + 1))) → T j = (match xfst c n j with
    | some k => R k
    | none => T (j + n))
  | 0, j, _ => rfl
  | n + 1, j, h => by
    rw [h j (Nat.le_refl j) (by omega), xfst]
    cases c j with
    | true => rfl
    | false =>
      dsimp only [cond_false]
      rw [xl_fstF n (j + 1) (fun k h1 h2 => h k (by omega) (by omega)), show j + 1 + n = j + (n + 1) by omega]
theorem xl_fst {α : Type} {T R : Nat → α} {c : Nat → Bool} {n : Nat} (h : ∀ k, k < n → T k = cond (c k) (R k) (T (k + 1))) : T 0 = (match xfst c n 0 with
    | some k => R k
    | none => T n) := by
  have := xl_fstF (T := T) (R := R) (c := c) n 0 (fun k _ h2 => h k (by omega))
  rwa [Nat.zero_add] at this
theorem xfst_some {c : Nat → Bool} : ∀ (n j k : Nat), xfst c n j = some k → j ≤ k ∧ k < j + n ∧ c k = true ∧ ∀ i, j ≤ i → i < k → c i = false
  | 0, _, _, h => by cases h
  | n + 1, j, k, h => by
    rw [xfst] at h
    cases hc : c j with
    | true =>
      rw [hc] at h
      cases h
      exact ⟨Nat.le_refl _, by omega, hc, fun i h1 h2 => by omega⟩
    | false =>
      rw [hc] at h
      obtain ⟨h1, h2, h3, h4⟩ := xfst_some n (j + 1) k h
      refine ⟨by omega, by omega, h3, fun i g1 g2 => ?_⟩
      rcases Nat.eq_or_lt_of_le g1 with rfl | g
      · exact hc
      · exact h4 i g g2
theorem xfst_none {c : Nat → Bool} : ∀ (n j : Nat), xfst c n j = none → ∀ i, j ≤ i → i < j + n → c i = false
  | 0, _, _ => fun i h1 h2 => by omega
  | n + 1, j, h => fun i h1 h2 => by
    rw [xfst] at h
    cases hc : c j with
    | true => rw [hc] at h; cases h
    | false =>
      rw [hc] at h
      rcases Nat.eq_or_lt_of_le h1 with rfl | g
      · exact hc
      · exact xfst_none n (j + 1) h i g (by omega)
theorem xfst_congr {c c' : Nat → Bool} : ∀ (n j : Nat), (∀ i, j ≤ i → i < j + n → c i = c' i) → xfst c n j = xfst c' n j
  | 0, _, _ => rfl
  | n + 1, j, h => by rw [xfst, xfst, h j (Nat.le_refl j) (by omega), xfst_congr n (j + 1) (fun i h1 h2 => h i (by omega) (by omega))]
/-- sums -/
def xsN (g : Nat → Nat) : Nat → Nat
  | 0 => 0
  | n + 1 => xsN g n + g n
theorem xsN_congr {g g' : Nat → Nat} : ∀ (n : Nat), (∀ k, k < n → g k = g' k) → xsN g n = xsN g' n
  | 0, _ => rfl
  | n + 1, h => by rw [xsN, xsN, xsN_congr n (fun k hk => h k (by omega)), h n (Nat.lt_succ_self n)]
theorem xsN_le {g : Nat → Nat} {B : Nat} : ∀ (n : Nat), (∀ k, k < n → g k ≤ B) → xsN g n ≤ n * B
  | 0, _ => by simp [xsN]
  | n + 1, h => by
    rw [xsN, Nat.succ_mul]
    have := xsN_le n (fun k hk => h k (by omega))
    have := h n (Nat.lt_succ_self n)
    omega
theorem xsN_up {g : Nat → Nat} {x a : Nat} : ∀ (n : Nat), x < n → xsN (fun y => if y = x then a else g y) n + g x = xsN g n + a
  | 0, h => by omega
  | n + 1, h => by
    rw [xsN, xsN]
    rcases Nat.lt_or_ge x n with h1 | h1
    · have := xsN_up (g := g) (a := a) n h1
      rw [if_neg (by omega)]
      omega
    · have e : x = n := by omega
      subst e
      rw [if_pos rfl, xsN_congr (g' := g) x (fun k hk => by rw [if_neg (by omega)])]
      omega
theorem xsN_mem {g : Nat → Nat} {x : Nat} : ∀ (n : Nat), x < n → g x ≤ xsN g n
  | 0, h => by omega
  | n + 1, h => by
    rw [xsN]
    rcases Nat.lt_or_ge x n with h1 | h1
    · have := xsN_mem (g := g) n h1
      omega
    · have e : x = n := by omega
      subst e
      omega
theorem xsN_add {g g' : Nat → Nat} : ∀ (n : Nat), xsN (fun k => g k + g' k) n = xsN g n + xsN g' n
  | 0 => rfl
  | n + 1 => by rw [xsN, xsN, xsN, xsN_add n]; omega
theorem xsN_mono {g : Nat → Nat} : ∀ (n m : Nat), n ≤ m → xsN g n ≤ xsN g m
  | n, 0, h => by rw [Nat.le_zero.mp h]; exact Nat.le_refl _
  | n, m + 1, h => by
    rcases Nat.lt_or_ge n (m + 1) with h1 | h1
    · have := xsN_mono (g := g) n m (by omega)
      rw [xsN]; omega
    · have e : n = m + 1 := by omega
      subst e; exact Nat.le_refl _
theorem xi_t {a n : Nat} (h : a < n) (hn : n < 2147483648) : xr_in (nI a) n = true := by
  rw [xn_in (by omega), decide_eq_true h]
theorem xn_slt {s a b : Nat} (hs : s < 100000000) (ha : a < 100000000) (hb : b < 100000000) : (nI s < nI a - nI b) = (s + b < a) := by
  have e : nI a - nI b = Int32.ofInt ((a : Int) - (b : Int)) := by
    rw [Int32.ofInt_sub, Int32.ofInt_eq_ofNat, Int32.ofInt_eq_ofNat]; rfl
  apply propext
  rw [e, Int32.lt_iff_toInt_lt, nI_toInt (by omega), Int32.toInt_ofInt_of_le (by omega) (by omega)]
  omega
theorem xw_y {M : xr_M} {b c k : Nat} {v : Int32} {b' c' k' : Nat} (h : b' = b ∧ c' = c ∧ k' = k) : xw M b c k v b' c' k' = v := if_pos h
theorem xw_n {M : xr_M} {b c k : Nat} {v : Int32} {b' c' k' : Nat} (h : ¬ (b' = b ∧ c' = c ∧ k' = k)) : xw M b c k v b' c' k' = M b' c' k' := if_neg h
/-- a row with one place changed -/
def xu (f : Nat → Int32) (k : Nat) (v : Int32) : Nat → Int32 := fun j => if j = k then v else f j
theorem xu_y {f : Nat → Int32} {k : Nat} {v : Int32} {j : Nat} (h : j = k) : xu f k v j = v := if_pos h
theorem xu_n {f : Nat → Int32} {k : Nat} {v : Int32} {j : Nat} (h : ¬ j = k) : xu f k v j = f j := if_neg h
theorem xw_u {M : xr_M} {b c k : Nat} {v : Int32} : xw M b c k v b c = xu (M b c) k v := by
  funext j; unfold xw xu; simp
theorem xw_r {M : xr_M} {b c k : Nat} {v : Int32} {b' c' : Nat} (h : ¬ (b' = b ∧ c' = c)) : xw M b c k v b' c' = M b' c' := by
  funext j; exact if_neg (fun q => h ⟨q.1, q.2.1⟩)
theorem xcp_r {M : xr_M} {b c s b1 c1 t n b' c' : Nat} (h : ¬ (b' = b1 ∧ c' = c1)) : xcp M b c s b1 c1 t n b' c' = M b' c' := by
  funext j; exact if_neg (fun q => h ⟨q.1, q.2.1⟩)
theorem xcp_y {M : xr_M} {b c s b1 c1 t n k : Nat} (h : t ≤ k ∧ k < t + n) : xcp M b c s b1 c1 t n b1 c1 k = M b c (s + (k - t)) := if_pos ⟨rfl, rfl, h⟩
theorem xcp_n {M : xr_M} {b c s b1 c1 t n k : Nat} (h : ¬ (t ≤ k ∧ k < t + n)) : xcp M b c s b1 c1 t n b1 c1 k = M b1 c1 k := if_neg (fun q => h q.2.2)
/-- a loop with what it gathers -/
def xfo {β : Type} (f : Nat → β → β) : Nat → β → β
  | 0, a => a
  | n + 1, a => f n (xfo f n a)
theorem xl_acc {α β : Type} (T : Nat → β → α) (f : Nat → β → β) {n : Nat} (a : β) (h : ∀ k b, k < n → T k b = T (k + 1) (f k b)) : T 0 a = T n (xfo f n a) := by
  induction n with
  | zero => rfl
  | succ n ih => rw [ih (fun k b hk => h k b (by omega)), h n _ (by omega), xfo]
/-- with what holds all along -/
theorem xl_inv {α β : Type} (T : Nat → β → α) (f : Nat → β → β) (I : Nat → β → Prop) {n : Nat} {a : β} (h0 : I 0 a) (h : ∀ k b, k < n → I k b → T k b = T (k + 1) (f k b) ∧ I (k + 1) (f k b)) : T 0 a = T n (xfo f n a) ∧ I n (xfo f n a) := by
  induction n with
  | zero => exact ⟨rfl, h0⟩
  | succ n ih =>
    obtain ⟨h1, h2⟩ := ih (fun k b hk => h k b (by omega))
    obtain ⟨h3, h4⟩ := h n _ (by omega) h2
    exact ⟨h1.trans h3, h4⟩
theorem xfo_congr {β : Type} {f g : Nat → β → β} : ∀ (n : Nat) (a : β), (∀ k b, k < n → f k b = g k b) → xfo f n a = xfo g n a
  | 0, _, _ => rfl
  | n + 1, a, h => by rw [xfo, xfo, xfo_congr n a (fun k b hk => h k b (by omega)), h n _ (by omega)]
theorem xfo_nat {f : Nat → Int32 → Int32} {g : Nat → Nat → Nat} : ∀ (n : Nat) (a : Nat), (∀ k b, k < n → f k (nI b) = nI (g k b)) → xfo f n (nI a) = nI (xfo g n a)
  | 0, _, _ => rfl
  | n + 1, a, h => by rw [xfo, xfo, xfo_nat n a (fun k b hk => h k b (by omega)), h n _ (by omega)]
