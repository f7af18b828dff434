/-! THE HEAP: what is asked of it -/
theorem xl_fstV {α V : Type} {T : Nat → V → α} {R : Nat → α} {c : Nat → Bool} : ∀ (n j : Nat), (∀ k v, j ≤ k → k < j + n → ∃ v', T k v = cond (c k) (R k) (T (k + 1) v')) → ∀ v, ∃ v', T j v = (match xfst c n j with
    | some k => R k
    | none => T (j + n) v')
  | 0, j, _, v => ⟨v, rfl⟩
  | n + 1, j, h, v => by
    obtain ⟨v1, e1⟩ := h j v (Nat.le_refl j) (by omega)
    rw [xfst]
    cases hc : c j with
    | true => exact ⟨v, by rw [e1, hc]; rfl⟩
    | false =>
      obtain ⟨v2, e2⟩ := xl_fstV n (j + 1) (fun k v h1 h2 => h k v (by omega) (by omega)) v1
      refine ⟨v2, ?_⟩
      rw [e1, hc]
      dsimp only [cond_false]
      rw [e2, show j + 1 + n = j + (n + 1) by omega]
theorem xl_upV {α V : Type} {T : Nat → V → α} : ∀ (n : Nat), (∀ k v, k < n → ∃ v', T k v = T (k + 1) v') → ∀ v, ∃ v', T 0 v = T n v'
  | 0, _, v => ⟨v, rfl⟩
  | n + 1, h, v => by
    obtain ⟨v1, e1⟩ := xl_upV n (fun k v hk => h k v (by omega)) v
    obtain ⟨v2, e2⟩ := h n v1 (by omega)
    exact ⟨v2, e1.trans e2⟩
theorem xn_maxA {a b : Nat} : (if a < b then nI b else nI a) = nI (max a b) := by
  split
  · rw [Nat.max_eq_right (by omega)]
  · rw [Nat.max_eq_left (by omega)]
theorem xn_minA {a b : Nat} : (if b < a then nI b else nI a) = nI (min a b) := by
  split
  · rw [Nat.min_eq_right (by omega)]
  · rw [Nat.min_eq_left (by omega)]
def hrow (h : Nat → Nat) (s : Nat → Nat → Int32) (x : Nat) (v : Int32) : Option Nat := xfst (fun k => decide (s x k = v)) (h x) 0
def hcol (h : Nat → Nat) (s : Nat → Nat → Int32) (v : Int32) : Option Nat := xfst (fun x => (hrow h s x v).isSome) 8 0
def hmx (h : Nat → Nat) : Nat → Nat
  | 0 => 0
  | n + 1 => max (hmx h n) (h n)
theorem hmx_le {h : Nat → Nat} {b : Nat} : ∀ n, (∀ x, x < n → h x ≤ b) → hmx h n ≤ b
  | 0, _ => Nat.zero_le _
  | n + 1, q => by
    rw [hmx]
    have h1 := hmx_le n (fun x hx => q x (by omega))
    have h2 := q n (by omega)
    omega
theorem hrow_lt {h : Nat → Nat} {s : Nat → Nat → Int32} {x k : Nat} {v : Int32} (q : hrow h s x v = some k) : k < h x ∧ s x k = v ∧ ∀ j, j < k → s x j ≠ v := by
  obtain ⟨_, h2, h3, h4⟩ := xfst_some _ _ _ q
  exact ⟨by omega, of_decide_eq_true h3, fun j hj => of_decide_eq_false (h4 j (by omega) hj)⟩
theorem hcol_some {h : Nat → Nat} {s : Nat → Nat → Int32} {x : Nat} {v : Int32} (q : hcol h s v = some x) : x < 8 ∧ ∃ k, hrow h s x v = some k := by
  obtain ⟨_, h2, h3, _⟩ := xfst_some _ _ _ q
  exact ⟨by omega, Option.isSome_iff_exists.mp h3⟩
section
variable {d : Nat} {w : List Nat} {S : xr_S} {c : Nat} {h : Nat → Nat} {s : Nat → Nat → Int32}
theorem hc36 (hc : c = 9 ∨ c = 18 ∨ c = 31) (H : xhC (xm S 0 (c + 1)) (xm S 0 (c + 2)) h s) : xr_Call (d + 1) 36 [xP 0 c] ([], w) S = some (.inl (some (nI (xsN h 8))), ([], w), S) := by
  have H1 := H.1
  rw [xe36 d w S c hc]
  refine (xl_up (T := fun k => xr_Run d 36 4 [xP 0 c, xI (nI (xsN h k)), xI (nI k)] [] ([], w) S) (n := 8) (fun k hk => ?_)).trans ?_
  · refine (xg36_4 _ _ _ _ hc _ _).trans ?_
    simp (disch := omega) only [xi_t, xn_k, xn_lt, xn_eq, xn_mul, xn_add, xn_sub, xn_dec, xn_m1, xn_1m, if_pos, if_neg, if_true, if_false, cond_true, cond_false, true_and, and_true, false_and, and_false, xr_cI_s, xr_cV_s, xr_cI_e, xr_cV_e, xm_xs, xs_xs, H1, xsN]
  · refine (xg36_4 _ _ _ _ hc _ _).trans ?_
    simp (disch := omega) only [xi_t, xn_k, xn_lt, xn_eq, xn_mul, xn_add, xn_sub, xn_dec, xn_m1, xn_1m, if_pos, if_neg, if_true, if_false, cond_true, cond_false, true_and, and_true, false_and, and_false, xr_cI_s, xr_cV_s, xr_cI_e, xr_cV_e, xm_xs, xs_xs]
theorem hc37 (hc : c = 9 ∨ c = 18 ∨ c = 31) (H : xhC (xm S 0 (c + 1)) (xm S 0 (c + 2)) h s) (B : xhB 81 h) : xr_Call (d + 1) 37 [xP 0 c] ([], w) S = some (.inl (some (nI (hmx h 8))), ([], w), S) := by
  have H1 := H.1
  rw [xe37 d w S c hc]
  refine (xl_up (T := fun k => xr_Run d 37 4 [xP 0 c, xI (nI (hmx h k)), xI (nI k)] [] ([], w) S) (n := 8) (fun k hk => ?_)).trans ?_
  · refine (xg37_4 _ _ _ _ hc _ _).trans ?_
    have b1 := B k hk
    have b2 := hmx_le k (fun x hx => B x (by omega))
    simp (disch := omega) only [xn_maxA, xi_t, xn_k, xn_lt, xn_eq, xn_mul, xn_add, xn_sub, xn_dec, xn_m1, xn_1m, if_pos, if_neg, if_true, if_false, cond_true, cond_false, true_and, and_true, false_and, and_false, xr_cI_s, xr_cV_s, xr_cI_e, xr_cV_e, xm_xs, xs_xs, H1, hmx]
  · refine (xg37_4 _ _ _ _ hc _ _).trans ?_
    simp (disch := omega) only [xi_t, xn_k, xn_lt, xn_eq, xn_mul, xn_add, xn_sub, xn_dec, xn_m1, xn_1m, if_pos, if_neg, if_true, if_false, cond_true, cond_false, true_and, and_true, false_and, and_false, xr_cI_s, xr_cV_s, xr_cI_e, xr_cV_e, xm_xs, xs_xs]
theorem hc39 (hc : c = 9 ∨ c = 18 ∨ c = 31) (H : xhC (xm S 0 (c + 1)) (xm S 0 (c + 2)) h s) (B : xhB 81 h) {x : Nat} (hx : x < 8) (v : Int32) : xr_Call (d + 1) 39 [xP 0 c, xI (nI x), xI v] ([], w) S = some (.inl (some (oI (hrow h s x v))), ([], w), S) := by
  have H1 := H.1
  have b1 := B x hx
  rw [xe39 d w S c hc]
  refine (xl_fst (T := fun k => xr_Run d 39 2 [xP 0 c, xI (nI x), xI v, xI (nI k)] [] ([], w) S) (R := fun k => some (.inl (some (nI k)), ([], w), S)) (c := fun k => decide (s x k = v)) (n := h x) (fun k hk => ?_)).trans ?_
  · refine (xg39_2 _ _ _ _ hc _ _ _).trans ?_
    have e := H.2 x k hx hk
    simp (disch := omega) only [xi_t, xn_k, xn_lt, xn_eq, xn_mul, xn_add, xn_sub, xn_dec, xn_m1, xn_1m, if_pos, if_neg, if_true, if_false, cond_true, cond_false, true_and, and_true, false_and, and_false, xr_cI_s, xr_cV_s, xr_cI_e, xr_cV_e, xm_xs, xs_xs, H1, e, Bool.cond_decide]
  · rw [show xfst (fun k => decide (s x k = v)) (h x) 0 = hrow h s x v from rfl]
    cases hrow h s x v with
    | some k => rfl
    | none =>
      refine (xg39_2 _ _ _ _ hc _ _ _).trans ?_
      simp (disch := omega) only [xi_t, xn_k, xn_lt, xn_eq, xn_mul, xn_add, xn_sub, xn_dec, xn_m1, xn_1m, if_pos, if_neg, if_true, if_false, cond_true, cond_false, true_and, and_true, false_and, and_false, xr_cI_s, xr_cV_s, xr_cI_e, xr_cV_e, xm_xs, xs_xs, H1]
      rfl
theorem hc38 (hc : c = 9 ∨ c = 18 ∨ c = 31) (H : xhC (xm S 0 (c + 1)) (xm S 0 (c + 2)) h s) (B : xhB 81 h) (v : Int32) : xr_Call (d + 2) 38 [xP 0 c, xI v] ([], w) S = some (.inl (some (oI (hcol h s v))), ([], w), S) := by
  rw [xe38 (d + 1) w S c hc]
  refine (xl_fst (T := fun k => xr_Run (d + 1) 38 2 [xP 0 c, xI v, xI (nI k)] [] ([], w) S) (R := fun k => some (.inl (some (nI k)), ([], w), S)) (c := fun x => (hrow h s x v).isSome) (n := 8) (fun k hk => ?_)).trans ?_
  · refine (xg38_2 _ _ _ _ hc _ _).trans ?_
    rw [if_pos (by rw [xn_lt (by omega) (by omega)]; omega), hc39 hc H B hk, xr_cI_s]
    cases hr : hrow h s k v with
    | none => simp (disch := omega) only [xi_t, xn_k, xn_lt, xn_eq, xn_mul, xn_add, xn_sub, xn_dec, xn_m1, xn_1m, if_pos, if_neg, if_true, if_false, cond_true, cond_false, true_and, and_true, false_and, and_false, xr_cI_s, xr_cV_s, xr_cI_e, xr_cV_e, xm_xs, xs_xs, oI, Option.isSome]
    | some j =>
      have := (hrow_lt hr).1
      have := B k hk
      simp (disch := omega) only [xi_t, xn_k, xn_lt, xn_eq, xn_mul, xn_add, xn_sub, xn_dec, xn_m1, xn_1m, if_pos, if_neg, if_true, if_false, cond_true, cond_false, true_and, and_true, false_and, and_false, xr_cI_s, xr_cV_s, xr_cI_e, xr_cV_e, xm_xs, xs_xs, oI, Option.isSome]
  · rw [show xfst (fun x => (hrow h s x v).isSome) 8 0 = hcol h s v from rfl]
    cases hcol h s v with
    | some k => rfl
    | none =>
      refine (xg38_2 _ _ _ _ hc _ _).trans ?_
      simp (disch := omega) only [xi_t, xn_k, xn_lt, xn_eq, xn_mul, xn_add, xn_sub, xn_dec, xn_m1, xn_1m, if_pos, if_neg, if_true, if_false, cond_true, cond_false, true_and, and_true, false_and, and_false, xr_cI_s, xr_cV_s, xr_cI_e, xr_cV_e, xm_xs, xs_xs]
      rfl
def hdown (h : Nat → Nat) (s : Nat → Nat → Int32) (v : Int32) : Int32 := match hcol h s v with
  | none => -1
  | some x => match hrow h s x v with
    | none => -1
    | some k => nI (h x - k)
theorem hc40 (hc : c = 9 ∨ c = 18 ∨ c = 31) (H : xhC (xm S 0 (c + 1)) (xm S 0 (c + 2)) h s) (B : xhB 81 h) (v : Int32) : xr_Call (d + 3) 40 [xP 0 c, xI v] ([], w) S = some (.inl (some (hdown h s v)), ([], w), S) := by
  have H1 := H.1
  rw [xe40 (d + 2) w S c hc, hc38 hc H B, xr_cI_s]
  unfold hdown
  cases hq : hcol h s v with
  | none => simp (disch := omega) only [xi_t, xn_k, xn_lt, xn_eq, xn_mul, xn_add, xn_sub, xn_dec, xn_m1, xn_1m, if_pos, if_neg, if_true, if_false, cond_true, cond_false, true_and, and_true, false_and, and_false, xr_cI_s, xr_cV_s, xr_cI_e, xr_cV_e, xm_xs, xs_xs, oI]
  | some x =>
    obtain ⟨hx, k, hk⟩ := hcol_some hq
    have := (hrow_lt hk).1
    have := B x hx
    simp (disch := omega) only [xi_t, xn_k, xn_lt, xn_eq, xn_mul, xn_add, xn_sub, xn_dec, xn_m1, xn_1m, if_pos, if_neg, if_true, if_false, cond_true, cond_false, true_and, and_true, false_and, and_false, xr_cI_s, xr_cV_s, xr_cI_e, xr_cV_e, xm_xs, xs_xs, oI, hc39 hc H B hx, hk, H1]
theorem hm199 (hc : c = 89 ∨ c = 90) (H : xhM (xm S 0 c) h s) (B : xhB 80 h) (v : Int32) : xr_Call (d + 2) 199 [xP 0 c, xI v] ([], w) S = some (.inl (some (oI (hcol h s v))), ([], w), S) := by
  rw [xe199 (d + 1) w S c hc]
  obtain ⟨v', e⟩ := xl_fstV (T := fun k u => xr_Run (d + 1) 199 2 [xP 0 c, xI v, xI (nI k), u] [] ([], w) S) (R := fun k => some (.inl (some (nI k)), ([], w), S)) (c := fun x => (hrow h s x v).isSome) 8 0 (fun x u _ hx => by
    have b1 := B x (by omega)
    refine ⟨xI (nI (h x)), ?_⟩
    refine (xg199_2 _ _ _ _ hc _ _ _).trans ?_
    rw [if_pos (by rw [xn_lt (by omega) (by omega)]; omega)]
    refine (xl_fst (T := fun k => xr_Run (d + 1) 199 10 [xP 0 c, xI v, xI (nI x), xI (nI k)] [] ([], w) S) (R := fun _ => some (.inl (some (nI x)), ([], w), S)) (c := fun k => decide (s x k = v)) (n := h x) (fun k hk => ?_)).trans ?_
    · refine (xg199_10 _ _ _ _ hc _ _ _).trans ?_
      have e := H.2 x k (by omega) hk
      simp (disch := omega) only [xi_t, xn_k, xn_lt, xn_eq, xn_mul, xn_add, xn_sub, xn_dec, xn_m1, xn_1m, if_pos, if_neg, if_true, if_false, cond_true, cond_false, true_and, and_true, false_and, and_false, xr_cI_s, xr_cV_s, xr_cI_e, xr_cV_e, xm_xs, xs_xs, hm192 hc H, e, Bool.cond_decide]
    · rw [show xfst (fun k => decide (s x k = v)) (h x) 0 = hrow h s x v from rfl]
      cases hrow h s x v with
      | some k => rfl
      | none =>
        refine (xg199_10 _ _ _ _ hc _ _ _).trans ?_
        simp (disch := omega) only [xi_t, xn_k, xn_lt, xn_eq, xn_mul, xn_add, xn_sub, xn_dec, xn_m1, xn_1m, if_pos, if_neg, if_true, if_false, cond_true, cond_false, true_and, and_true, false_and, and_false, xr_cI_s, xr_cV_s, xr_cI_e, xr_cV_e, xm_xs, xs_xs, hm192 hc H, Option.isSome]) xU
  refine e.trans ?_
  rw [show xfst (fun x => (hrow h s x v).isSome) 8 0 = hcol h s v from rfl]
  cases hcol h s v with
  | some k => rfl
  | none =>
    refine (xg199_2 _ _ _ _ hc _ _ _).trans ?_
    simp (disch := omega) only [xi_t, xn_k, xn_lt, xn_eq, xn_mul, xn_add, xn_sub, xn_dec, xn_m1, xn_1m, if_pos, if_neg, if_true, if_false, cond_true, cond_false, true_and, and_true, false_and, and_false, xr_cI_s, xr_cV_s, xr_cI_e, xr_cV_e, xm_xs, xs_xs]
    rfl
theorem hm200 (hc : c = 89 ∨ c = 90) (H : xhM (xm S 0 c) h s) : xr_Call (d + 2) 200 [xP 0 c] ([], w) S = some (.inl (some (nI (xsN h 8))), ([], w), S) := by
  rw [xe200 (d + 1) w S c hc]
  refine (xl_up (T := fun k => xr_Run (d + 1) 200 4 [xP 0 c, xI (nI (xsN h k)), xI (nI k)] [] ([], w) S) (n := 8) (fun k hk => ?_)).trans ?_
  · refine (xg200_4 _ _ _ _ hc _ _).trans ?_
    simp (disch := omega) only [xi_t, xn_k, xn_lt, xn_eq, xn_mul, xn_add, xn_sub, xn_dec, xn_m1, xn_1m, if_pos, if_neg, if_true, if_false, cond_true, cond_false, true_and, and_true, false_and, and_false, xr_cI_s, xr_cV_s, xr_cI_e, xr_cV_e, xm_xs, xs_xs, hm192 hc H, xsN]
  · refine (xg200_4 _ _ _ _ hc _ _).trans ?_
    simp (disch := omega) only [xi_t, xn_k, xn_lt, xn_eq, xn_mul, xn_add, xn_sub, xn_dec, xn_m1, xn_1m, if_pos, if_neg, if_true, if_false, cond_true, cond_false, true_and, and_true, false_and, and_false, xr_cI_s, xr_cV_s, xr_cI_e, xr_cV_e, xm_xs, xs_xs]
theorem hc31 (hc : c = 9 ∨ c = 18 ∨ c = 31) (H : xhC (xm S 0 (c + 1)) (xm S 0 (c + 2)) h s) (B : xhB 81 h) {x k : Nat} (hx : x < 8) (hk : k < 2147483648) : xr_Call (d + 1) 31 [xP 0 c, xI (nI x), xI (nI k)] ([], w) S = some (.inl (some (if k < h x then s x k else -1)), ([], w), S) := by
  have H1 := H.1
  have b1 := B x hx
  rw [xe31 d w S c hc]
  by_cases q : k < h x
  · simp (disch := omega) only [xi_t, xn_k, xn_lt, xn_eq, xn_mul, xn_add, xn_sub, xn_dec, xn_m1, xn_1m, if_pos, if_neg, if_true, if_false, cond_true, cond_false, true_and, and_true, false_and, and_false, xr_cI_s, xr_cV_s, xr_cI_e, xr_cV_e, xm_xs, xs_xs, H1, H.2 x k hx q]
  · simp (disch := omega) only [xi_t, xn_k, xn_lt, xn_eq, xn_mul, xn_add, xn_sub, xn_dec, xn_m1, xn_1m, if_pos, if_neg, if_true, if_false, cond_true, cond_false, true_and, and_true, false_and, and_false, xr_cI_s, xr_cV_s, xr_cI_e, xr_cV_e, xm_xs, xs_xs, H1]
end
