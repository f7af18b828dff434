/-! QUESTIONS, 4: tell, fits, feel -/
theorem xfst_iff {c : Nat → Bool} {n j : Nat} : (xfst c n j).isSome = true ↔ ∃ k, j ≤ k ∧ k < j + n ∧ c k = true := by
  constructor
  · intro q
    obtain ⟨k, hk⟩ := Option.isSome_iff_exists.mp q
    obtain ⟨h1, h2, h3, _⟩ := xfst_some _ _ _ hk
    exact ⟨k, h1, h2, h3⟩
  · rintro ⟨k, h1, h2, h3⟩
    cases hq : xfst c n j with
    | some y => rfl
    | none =>
      have := xfst_none _ _ hq k h1 h2
      rw [this] at h3; cases h3
theorem xbool_ext {a b : Bool} (h : a = true ↔ b = true) : a = b := by
  cases a <;> cases b <;> simp at h ⊢
def tdi (dp : Nat → Nat → Nat) (a b i : Nat) : Nat := (dp a i - dp b i) + (dp b i - dp a i)
def tap (dp : Nat → Nat → Nat) (a b m : Nat) : Nat := xsN (tdi dp a b) m
theorem tap_sym (dp : Nat → Nat → Nat) (a b : Nat) : ∀ m, tap dp a b m = tap dp b a m := fun m => xsN_congr m (fun k _ => by unfold tdi; omega)
def tcl (dp : Nat → Nat → Nat) (ch nq m : Nat) : Bool := (xfst (fun a => (xfst (fun b => decide (tap dp a b m ≤ 2 * ch)) (nq - (a + 1)) (a + 1)).isSome) nq 0).isSome
def tml (dp : Nat → Nat → Nat) (ch nq m : Nat) : Bool := (xfst (fun p => (xfst (fun q => decide (tap dp p q m ≤ 2 * ch)) p 0).isSome) nq 0).isSome
theorem tcl_tml (dp : Nat → Nat → Nat) (ch nq m : Nat) : tcl dp ch nq m = tml dp ch nq m := by
  apply xbool_ext
  unfold tcl tml
  rw [xfst_iff, xfst_iff]
  constructor
  · rintro ⟨a, _, ha, h⟩
    obtain ⟨b, h1, h2, h3⟩ := xfst_iff.mp h
    refine ⟨b, by omega, by omega, xfst_iff.mpr ⟨a, by omega, by omega, ?_⟩⟩
    rw [tap_sym]; exact h3
  · rintro ⟨p, _, hp, h⟩
    obtain ⟨q, h1, h2, h3⟩ := xfst_iff.mp h
    refine ⟨q, by omega, by omega, xfst_iff.mpr ⟨p, by omega, by omega, ?_⟩⟩
    rw [tap_sym]; exact h3
def fA (pl : Nat → Nat) (g : Nat → Int32) (half i : Nat) : Nat := if i < pl (half / 2) then gN g (48 + 6 * half + i) else 10
def fbad (fl : Nat → Option Nat) (pl : Nat → Nat) (g : Nat → Int32) (half i : Nat) : Bool := match fl i with
  | none => false
  | some v => !decide (v = fA pl g half i)
def gfit (fl : Nat → Option Nat) (pl : Nat → Nat) (g : Nat → Int32) (half : Nat) : Bool := cond (decide (g (8 + half / 2) = nI 0)) (xfst (fbad fl pl g half) 6 0).isNone false
def fcnt (fl : Nat → Option Nat) (pl : Nat → Nat) (g : Nat → Int32) (i n v : Nat) : Nat := xsN (fun half => if gfit fl pl g half = true ∧ fA pl g half i = v then 1 else 0) n
theorem hmx_up {f f' : Nat → Nat} {a : Nat} : ∀ n, a < n → (∀ v, v < n → v ≠ a → f' v = f v) → f a ≤ f' a → hmx f' n = max (hmx f n) (f' a) := by
  intro n
  induction n with
  | zero => intro h; omega
  | succ n ih =>
    intro ha h1 h2
    rw [hmx, hmx]
    rcases Nat.lt_or_ge a n with q | q
    · rw [ih q (fun v hv => h1 v (by omega)) h2, h1 n (by omega) (by omega)]
      omega
    · have e : a = n := by omega
      subst e
      have L : ∀ m, m ≤ a → hmx f' m = hmx f m := by
        intro m
        induction m with
        | zero => intro _; rfl
        | succ m ihm => intro hm; rw [hmx, hmx, ihm (by omega), h1 m (by omega) (by omega)]
      rw [L a (Nat.le_refl _)]
      omega
theorem hmx_congr {f f' : Nat → Nat} : ∀ n, (∀ v, v < n → f' v = f v) → hmx f' n = hmx f n
  | 0, _ => rfl
  | n + 1, h => by rw [hmx, hmx, hmx_congr n (fun v hv => h v (by omega)), h n (by omega)]
section
variable {d : Nat} {w : List Nat} {S : xr_S} {np nq ch st : Nat} {du pl : Nat → Nat} {dy : Nat → Int32} {dp : Nat → Nat → Nat} {sz : Nat} {kd : Nat → Nat} {gv g : Nat → Int32} {h : Nat → Nat} {s : Nat → Nat → Int32} {ln : Nat} {ti : Nat → Nat} {fl : Nat → Option Nat}
theorem tc67 (P : xPl (xm S) np nq ch st du pl dy dp) {a b m : Nat} (ha : a < nq) (hb : b < nq) (hm : m ≤ 6) : xr_Call (d + 1) 67 [xP 0 35, xI (nI a), xI (nI b), xI (nI m)] ([], w) S = some (.inl (some (nI (tap dp a b m))), ([], w), S) := by
  obtain ⟨⟨p0, p1, p2, p3⟩, ⟨m0, m1, m2, m3⟩, ⟨b0, b1, b2, b3, b4⟩, hp, hd⟩ := P
  rw [xe67]
  refine (xl_up (T := fun k => xr_Run d 67 6 [xP 0 35, xI (nI a), xI (nI b), xI (nI m), xI (nI (tap dp a b k)), xI (nI k)] [] ([], w) S) (n := m) (fun k hk => ?_)).trans ?_
  · refine (xg67_6 _ _ _ _ _ _ _ _).trans ?_
    obtain ⟨ea, la, _⟩ := hd a k ha (by omega)
    obtain ⟨eb, lb, _⟩ := hd b k hb (by omega)
    simp (disch := omega) only [xn_abs, xi_t, xn_k, xn_lt, xn_mul, xn_add, if_pos, cond_true, ea, eb, tap, xsN, tdi]
  · refine (xg67_6 _ _ _ _ _ _ _ _).trans ?_
    simp (disch := omega) only [xi_t, xn_k, xn_lt, xn_eq, xn_mul, xn_add, xn_sub, xn_dec, xn_m1, xn_1m, if_pos, if_neg, if_true, if_false, cond_true, cond_false, true_and, and_true, false_and, and_false, xr_cI_s, xr_cV_s, xr_cI_e, xr_cV_e, xm_xs, xs_xs]
theorem tap_le (P : xPl (xm S) np nq ch st du pl dy dp) {a b m : Nat} (ha : a < nq) (hb : b < nq) (hm : m ≤ 6) : tap dp a b m ≤ m * 9 := xsN_le m (fun k hk => by
  have h1 := (P.2.2.2.2 a k ha (by omega)).2.1
  have h2 := (P.2.2.2.2 b k hb (by omega)).2.1
  unfold tdi
  omega)
theorem tc66 (P : xPl (xm S) np nq ch st du pl dy dp) {m : Nat} (hm : m ≤ 6) : xr_Call (d + 2) 66 [xP 0 35, xI (nI m)] ([], w) S = some (.inl (some (cond (tcl dp ch nq m) (nI 0) (nI 1))), ([], w), S) := by
  have P' := P
  obtain ⟨⟨p0, p1, p2, p3⟩, ⟨m0, m1, m2, m3⟩, ⟨b0, b1, b2, b3, b4⟩, hp, hd⟩ := P
  rw [xe66]
  obtain ⟨v', e⟩ := xl_fstV (T := fun a v => xr_Run (d + 1) 66 2 [xP 0 35, xI (nI m), xI (nI a), v] [] ([], w) S) (R := fun _ => some (.inl (some (nI 0)), ([], w), S)) (c := fun a => (xfst (fun b => decide (tap dp a b m ≤ 2 * ch)) (nq - (a + 1)) (a + 1)).isSome) nq 0 (fun a v _ ha => by
    refine ⟨xI (nI nq), ?_⟩
    refine (xg66_2 _ _ _ _ _ _).trans ?_
    simp (disch := omega) only [xi_t, xn_k, xn_lt, xn_eq, xn_mul, xn_add, xn_sub, xn_dec, xn_m1, xn_1m, if_pos, if_neg, if_true, if_false, cond_true, cond_false, true_and, and_true, false_and, and_false, xr_cI_s, xr_cV_s, xr_cI_e, xr_cV_e, xm_xs, xs_xs, p1]
    refine (xl_fstF (T := fun b => xr_Run (d + 1) 66 14 [xP 0 35, xI (nI m), xI (nI a), xI (nI b)] [] ([], w) S) (R := fun _ => some (.inl (some (nI 0)), ([], w), S)) (c := fun b => decide (tap dp a b m ≤ 2 * ch)) (nq - (a + 1)) (a + 1) (fun b h1 h2 => ?_)).trans ?_
    · refine (xg66_14 _ _ _ _ _ _).trans ?_
      have hl := tap_le P' (a := a) (b := b) (m := m) (by omega) (by omega) hm
      rw [if_pos (by rw [p1, xn_lt (by omega) (by omega)]; omega), tc67 P' (by omega) (by omega) hm, xr_cI_s, p2, xn_mul]
      by_cases q : tap dp a b m ≤ 2 * ch
      · rw [if_neg (by rw [xn_lt (by omega) (by omega)]; omega), decide_eq_true q]; rfl
      · rw [if_pos (by rw [xn_lt (by omega) (by omega)]; omega), decide_eq_false q, xn_add]; rfl
    · cases xfst (fun b => decide (tap dp a b m ≤ 2 * ch)) (nq - (a + 1)) (a + 1) with
      | some k => rfl
      | none =>
        refine (xg66_14 _ _ _ _ _ _).trans ?_
        simp (disch := omega) only [xi_t, xn_k, xn_lt, xn_eq, xn_mul, xn_add, xn_sub, xn_dec, xn_m1, xn_1m, if_pos, if_neg, if_true, if_false, cond_true, cond_false, true_and, and_true, false_and, and_false, xr_cI_s, xr_cV_s, xr_cI_e, xr_cV_e, xm_xs, xs_xs, p1, Option.isSome, show a + 1 + (nq - (a + 1)) = nq by omega, Nat.lt_irrefl]) xU
  refine e.trans ?_
  unfold tcl
  cases xfst (fun a => (xfst (fun b => decide (tap dp a b m ≤ 2 * ch)) (nq - (a + 1)) (a + 1)).isSome) nq 0 with
  | some k => rfl
  | none =>
    refine (xg66_2 _ _ _ _ _ _).trans ?_
    simp (disch := omega) only [xi_t, xn_k, xn_lt, xn_eq, xn_mul, xn_add, xn_sub, xn_dec, xn_m1, xn_1m, if_pos, if_neg, if_true, if_false, cond_true, cond_false, true_and, and_true, false_and, and_false, xr_cI_s, xr_cV_s, xr_cI_e, xr_cV_e, xm_xs, xs_xs, p1, Nat.zero_add, Nat.lt_irrefl, Option.isSome]
theorem tm256 (P : xPl (xm S) np nq ch st du pl dy dp) {p i : Nat} (hp0 : p < nq) (hi : i < 6) : xr_Call (d + 1) 256 [xP 0 69, xI (nI p), xI (nI i)] ([], w) S = some (.inl (some (nI (dp p i))), ([], w), S) := by
  obtain ⟨⟨p0, p1, p2, p3⟩, ⟨m0, m1, m2, m3⟩, ⟨b0, b1, b2, b3, b4⟩, hp, hd⟩ := P
  obtain ⟨_, _, _, _, _, e4, _, _, l3⟩ := hp p hp0
  obtain ⟨_, _, h0, h1⟩ := hd p i hp0 hi
  rw [xe256]
  by_cases q : i < pl p
  · simp (disch := omega) only [xi_t, xn_k, xn_lt, xn_eq, xn_mul, xn_add, xn_sub, xn_dec, xn_m1, xn_1m, if_pos, if_neg, if_true, if_false, cond_true, cond_false, true_and, and_true, false_and, and_false, xr_cI_s, xr_cV_s, xr_cI_e, xr_cV_e, xm_xs, xs_xs, e4, h1 q]
  · simp (disch := omega) only [xi_t, xn_k, xn_lt, xn_eq, xn_mul, xn_add, xn_sub, xn_dec, xn_m1, xn_1m, if_pos, if_neg, if_true, if_false, cond_true, cond_false, true_and, and_true, false_and, and_false, xr_cI_s, xr_cV_s, xr_cI_e, xr_cV_e, xm_xs, xs_xs, e4, h0 (by omega)]
theorem tm257 (P : xPl (xm S) np nq ch st du pl dy dp) {m : Nat} (hm : m ≤ 6) : xr_Call (d + 2) 257 [xP 0 69, xI (nI m)] ([], w) S = some (.inl (some (cond (tml dp ch nq m) (nI 0) (nI 1))), ([], w), S) := by
  have P' := P
  obtain ⟨⟨p0, p1, p2, p3⟩, ⟨m0, m1, m2, m3⟩, ⟨b0, b1, b2, b3, b4⟩, hp, hd⟩ := P
  rw [xe257]
  obtain ⟨v', e⟩ := xl_fstV (T := fun p (v : xr_V × xr_V × xr_V) => xr_Run (d + 1) 257 2 [xP 0 69, xI (nI m), xI (nI p), v.1, v.2.1, v.2.2] [] ([], w) S) (R := fun _ => some (.inl (some (nI 0)), ([], w), S)) (c := fun p => (xfst (fun q => decide (tap dp p q m ≤ 2 * ch)) p 0).isSome) nq 0 (fun p v _ hpq => by
    obtain ⟨u', e'⟩ := xl_fstV (T := fun q (v : xr_V × xr_V) => xr_Run (d + 1) 257 14 [xP 0 69, xI (nI m), xI (nI p), xI (nI q), v.1, v.2] [] ([], w) S) (R := fun _ => some (.inl (some (nI 0)), ([], w), S)) (c := fun q => decide (tap dp p q m ≤ 2 * ch)) p 0 (fun q v _ hq => by
      refine ⟨(xI (nI (tap dp p q m)), xI (nI m)), ?_⟩
      refine (xg257_14 _ _ _ _ _ _ _ _).trans ?_
      rw [if_pos (by rw [xn_lt (by omega) (by omega)]; omega)]
      refine (xl_up (T := fun i => xr_Run (d + 1) 257 25 [xP 0 69, xI (nI m), xI (nI p), xI (nI q), xI (nI (tap dp p q i)), xI (nI i)] [] ([], w) S) (n := m) (fun i hi => ?_)).trans ?_
      · refine (xg257_25 _ _ _ _ _ _ _ _).trans ?_
        have la := (hd p i (by omega) (by omega)).2.1
        have lb := (hd q i (by omega) (by omega)).2.1
        rw [if_pos (by rw [xn_lt (by omega) (by omega)]; omega), tm256 P' (by omega) (by omega), xr_cI_s, tm256 P' (by omega) (by omega), xr_cI_s, xe202]
        simp (disch := omega) only [xn_lt]
        unfold tap
        rw [xsN]
        unfold tdi
        by_cases q5 : dp q i < dp p i
        · rw [if_pos q5, xr_cI_s, xn_sub (by omega), xn_add, xn_add, show dp p i - dp q i + (dp q i - dp p i) = dp p i - dp q i by omega]
        · rw [if_neg q5, xr_cI_s, xn_sub (by omega), xn_add, xn_add, show dp p i - dp q i + (dp q i - dp p i) = dp q i - dp p i by omega]
      · refine (xg257_25 _ _ _ _ _ _ _ _).trans ?_
        have hl := tap_le P' (a := p) (b := q) (m := m) (by omega) (by omega) hm
        simp (disch := omega) only [xi_t, xn_k, cond_true, m2, xn_mul, xn_lt, Nat.lt_irrefl, if_false]
        by_cases q6 : tap dp p q m ≤ 2 * ch
        · rw [if_neg (by omega), decide_eq_true q6]; rfl
        · rw [if_pos (by omega), decide_eq_false q6, xn_add]; rfl) (v.2.1, v.2.2)
    cases hx : xfst (fun q => decide (tap dp p q m ≤ 2 * ch)) p 0 with
    | some k =>
      refine ⟨v, ?_⟩
      refine (xg257_2 _ _ _ _ _ _ _ _).trans ?_
      simp (disch := omega) only [xi_t, xn_k, xn_lt, xn_eq, xn_mul, xn_add, xn_sub, xn_dec, xn_m1, xn_1m, if_pos, if_neg, if_true, if_false, cond_true, cond_false, true_and, and_true, false_and, and_false, xr_cI_s, xr_cV_s, xr_cI_e, xr_cV_e, xm_xs, xs_xs, m1]
      rw [hx] at e'
      exact e'
    | none =>
      refine ⟨(xI (nI p), u'.1, u'.2), ?_⟩
      refine (xg257_2 _ _ _ _ _ _ _ _).trans ?_
      simp (disch := omega) only [xi_t, xn_k, xn_lt, xn_eq, xn_mul, xn_add, xn_sub, xn_dec, xn_m1, xn_1m, if_pos, if_neg, if_true, if_false, cond_true, cond_false, true_and, and_true, false_and, and_false, xr_cI_s, xr_cV_s, xr_cI_e, xr_cV_e, xm_xs, xs_xs, m1]
      rw [hx] at e'
      refine e'.trans ?_
      refine (xg257_14 _ _ _ _ _ _ _ _).trans ?_
      simp (disch := omega) only [xi_t, xn_k, xn_lt, xn_eq, xn_mul, xn_add, xn_sub, xn_dec, xn_m1, xn_1m, if_pos, if_neg, if_true, if_false, cond_true, cond_false, true_and, and_true, false_and, and_false, xr_cI_s, xr_cV_s, xr_cI_e, xr_cV_e, xm_xs, xs_xs, Nat.zero_add, Nat.lt_irrefl, Option.isSome]) (xU, xU, xU)
  refine e.trans ?_
  unfold tml
  cases xfst (fun p => (xfst (fun q => decide (tap dp p q m ≤ 2 * ch)) p 0).isSome) nq 0 with
  | some k => rfl
  | none =>
    refine (xg257_2 _ _ _ _ _ _ _ _).trans ?_
    simp (disch := omega) only [xi_t, xn_k, xn_lt, xn_eq, xn_mul, xn_add, xn_sub, xn_dec, xn_m1, xn_1m, if_pos, if_neg, if_true, if_false, cond_true, cond_false, true_and, and_true, false_and, and_false, xr_cI_s, xr_cV_s, xr_cI_e, xr_cV_e, xm_xs, xs_xs, m1, Nat.zero_add, Nat.lt_irrefl, Option.isSome]
theorem q_tell (I : xIq (xm S) np nq ch st du pl dy dp sz kd gv g h s ln ti fl) : qRes d 126 258 [] S 0 0 := by
  obtain ⟨P, ⟨Lc, Lm, Lv⟩, ⟨e89, G, W⟩, ⟨Hc, Hm, HI⟩, To⟩ := id I; obtain ⟨⟨p0, p1, p2, p3⟩, ⟨m0, m1, m2, m3⟩, ⟨b0, b1, b2, b3, b4⟩, hp, hd⟩ := id P
  refine Or.inl ⟨match xfst (fun k => !tcl dp ch nq (k + 1)) 6 0 with | some k => nI (k + 1) | none => -1, qOk_of ?_ ?_⟩
  · rw [xe126]
    refine (xl_fst (T := fun k => xr_Run (d + 59) 126 2 [xP 0 0, xI (nI (k + 1))] [] xMd S) (R := fun k => some (.inl (some (nI (k + 1))), xMd, S)) (c := fun k => !tcl dp ch nq (k + 1)) (n := 6) (fun k hk => ?_)).trans ?_
    · refine (xg126_2 _ _ _).trans ?_
      rw [if_neg (by rw [xn_lt (by omega) (by omega)]; omega), tc66 P (by omega), xr_cI_s]
      cases tcl dp ch nq (k + 1)
      · simp (disch := omega) only [xi_t, xn_k, xn_lt, xn_eq, xn_mul, xn_add, xn_sub, xn_dec, xn_m1, xn_1m, if_pos, if_neg, if_true, if_false, cond_true, cond_false, true_and, and_true, false_and, and_false, xr_cI_s, xr_cV_s, xr_cI_e, xr_cV_e, xm_xs, xs_xs, Bool.not_false]
      · simp (disch := omega) only [xi_t, xn_k, xn_lt, xn_eq, xn_mul, xn_add, xn_sub, xn_dec, xn_m1, xn_1m, if_pos, if_neg, if_true, if_false, cond_true, cond_false, true_and, and_true, false_and, and_false, xr_cI_s, xr_cV_s, xr_cI_e, xr_cV_e, xm_xs, xs_xs, Bool.not_true]
    · cases xfst (fun k => !tcl dp ch nq (k + 1)) 6 0 with
      | some k => rfl
      | none =>
        refine (xg126_2 _ _ _).trans ?_
        simp (disch := omega) only [xi_t, xn_k, xn_lt, xn_eq, xn_mul, xn_add, xn_sub, xn_dec, xn_m1, xn_1m, if_pos, if_neg, if_true, if_false, cond_true, cond_false, true_and, and_true, false_and, and_false, xr_cI_s, xr_cV_s, xr_cI_e, xr_cV_e, xm_xs, xs_xs]
  · rw [xe258]; obtain ⟨T, hT, e0, I'⟩ := xT_ex I; rw [← hT]; obtain ⟨P', ⟨Lc', Lm', Lv'⟩, ⟨e89', G', W'⟩, ⟨Hc', Hm', HI'⟩, To'⟩ := id I'; obtain ⟨⟨p0', p1', p2', p3'⟩, ⟨m0', m1', m2', m3'⟩, ⟨b0', b1', b2', b3', b4'⟩, hp', hd'⟩ := id P'
    refine (xl_fst (T := fun k => xr_Run (d + 59) 258 7 [xP 0 69, xI (nI (k + 1))] [] xMd T) (R := fun k => some (.inl (some (nI (k + 1))), xMd, T)) (c := fun k => !tcl dp ch nq (k + 1)) (n := 6) (fun k hk => ?_)).trans ?_
    · refine (xg258_7 _ _ _ _).trans ?_
      rw [if_neg (by rw [xn_lt (by omega) (by omega)]; omega), tm257 P' (by omega), xr_cI_s, ← tcl_tml]
      cases tcl dp ch nq (k + 1)
      · simp (disch := omega) only [xi_t, xn_k, xn_lt, xn_eq, xn_mul, xn_add, xn_sub, xn_dec, xn_m1, xn_1m, if_pos, if_neg, if_true, if_false, cond_true, cond_false, true_and, and_true, false_and, and_false, xr_cI_s, xr_cV_s, xr_cI_e, xr_cV_e, xm_xs, xs_xs, Bool.not_false]
      · simp (disch := omega) only [xi_t, xn_k, xn_lt, xn_eq, xn_mul, xn_add, xn_sub, xn_dec, xn_m1, xn_1m, if_pos, if_neg, if_true, if_false, cond_true, cond_false, true_and, and_true, false_and, and_false, xr_cI_s, xr_cV_s, xr_cI_e, xr_cV_e, xm_xs, xs_xs, Bool.not_true]
    · cases xfst (fun k => !tcl dp ch nq (k + 1)) 6 0 with
      | some k => rfl
      | none =>
        refine (xg258_7 _ _ _ _).trans ?_
        simp (disch := omega) only [xi_t, xn_k, xn_lt, xn_eq, xn_mul, xn_add, xn_sub, xn_dec, xn_m1, xn_1m, if_pos, if_neg, if_true, if_false, cond_true, cond_false, true_and, and_true, false_and, and_false, xr_cI_s, xr_cV_s, xr_cI_e, xr_cV_e, xm_xs, xs_xs]
theorem fc97 (P : xPl (xm S) np nq ch st du pl dy dp) (G : xGr (xm S) 0 3 np nq pl g) (W : xgW np nq pl g) {half i : Nat} (hh : half < 2 * nq) (hi : i < 6) : xr_Call (d + 1) 97 [xP 0 63, xP 0 35, xP 0 3, xI (nI half), xI (nI i)] ([], w) S = some (.inl (some (nI (fA pl g half i))), ([], w), S) := by
  obtain ⟨⟨p0, p1, p2, p3⟩, ⟨m0, m1, m2, m3⟩, ⟨b0, b1, b2, b3, b4⟩, hp, hd⟩ := P
  obtain ⟨_, _, c41, _, _, _, _, _, l3⟩ := hp (half / 2) (by omega)
  have z : ¬ nI 2 = 0 := by decide
  rw [xe97]
  unfold fA
  by_cases q : i < pl (half / 2)
  · have e := (G.2.2.2.2.2 half i hh q).trans (W.2 half i hh hi).1
    simp (disch := omega) only [z, xn_div, xi_t, xn_k, xn_lt, xn_eq, xn_mul, xn_add, xn_sub, xn_dec, xn_m1, xn_1m, if_pos, if_neg, if_true, if_false, cond_true, cond_false, true_and, and_true, false_and, and_false, xr_cI_s, xr_cV_s, xr_cI_e, xr_cV_e, xm_xs, xs_xs, c41, e]
  · simp (disch := omega) only [z, xn_div, xi_t, xn_k, xn_lt, xn_eq, xn_mul, xn_add, xn_sub, xn_dec, xn_m1, xn_1m, if_pos, if_neg, if_true, if_false, cond_true, cond_false, true_and, and_true, false_and, and_false, xr_cI_s, xr_cV_s, xr_cI_e, xr_cV_e, xm_xs, xs_xs, c41]
theorem fA_le (W : xgW np nq pl g) {half i : Nat} (hh : half < 2 * nq) (hi : i < 6) : fA pl g half i ≤ 10 := by
  unfold fA
  split
  · have := (W.2 half i hh hi).2.1; omega
  · omega
theorem fc96 (P : xPl (xm S) np nq ch st du pl dy dp) (G : xGr (xm S) 0 3 np nq pl g) (W : xgW np nq pl g) (To : xTo (xm S) ln ti fl) {half : Nat} (hh : half < 2 * nq) : xr_Call (d + 2) 96 [xP 0 63, xP 0 35, xP 0 3, xI (nI half)] ([], w) S = some (.inl (some (cond (gfit fl pl g half) (nI 1) (nI 0))), ([], w), S) := by
  have b1 := P.2.2.1.2.1
  have z : ¬ nI 2 = 0 := by decide
  rw [xe96]
  unfold gfit
  by_cases q : g (8 + half / 2) = nI 0
  · rw [decide_eq_true q]
    simp (disch := omega) only [z, xn_div, xi_t, xn_k, xn_lt, xn_eq, xn_mul, xn_add, xn_sub, xn_dec, xn_m1, xn_1m, if_pos, if_neg, if_true, if_false, cond_true, cond_false, true_and, and_true, false_and, and_false, xr_cI_s, xr_cV_s, xr_cI_e, xr_cV_e, xm_xs, xs_xs, G.2.2.1 (half / 2) (by omega), q]
    refine (xl_fst (T := fun k => xr_Run (d + 1) 96 16 [xP 0 63, xP 0 35, xP 0 3, xI (nI half), xI (nI k)] [] ([], w) S) (R := fun _ => some (.inl (some (nI 0)), ([], w), S)) (c := fbad fl pl g half) (n := 6) (fun k hk => ?_)).trans ?_
    · refine (xg96_16 _ _ _ _ _).trans ?_
      obtain ⟨t1, t2⟩ := To.2.1 k hk
      rw [fc97 P G W hh hk]
      have hf := fA_le W hh hk
      unfold fbad
      cases hq : fl k with
      | none =>
        rw [hq] at t1
        simp (disch := omega) only [xi_t, xn_k, xn_lt, xn_eq, xn_mul, xn_add, xn_sub, xn_dec, xn_m1, xn_1m, if_pos, if_neg, if_true, if_false, cond_true, cond_false, true_and, and_true, false_and, and_false, xr_cI_s, xr_cV_s, xr_cI_e, xr_cV_e, xm_xs, xs_xs, t1, oI]
      | some v =>
        rw [hq] at t1
        have hv := t2 v hq
        simp (disch := omega) only [xi_t, xn_k, xn_lt, xn_m1, xn_add, if_pos, if_true, if_false, cond_true, xr_cI_s, t1, oI, xn_eq]
        by_cases q5 : v = fA pl g half k
        · simp only [q5, if_true, decide_true, Bool.not_true, cond_false]
        · simp only [q5, if_false, decide_false, Bool.not_false, cond_true]
    · cases xfst (fbad fl pl g half) 6 0 with
      | some k => rfl
      | none =>
        refine (xg96_16 _ _ _ _ _).trans ?_
        simp (disch := omega) only [xi_t, xn_k, xn_lt, xn_eq, xn_mul, xn_add, xn_sub, xn_dec, xn_m1, xn_1m, if_pos, if_neg, if_true, if_false, cond_true, cond_false, true_and, and_true, false_and, and_false, xr_cI_s, xr_cV_s, xr_cI_e, xr_cV_e, xm_xs, xs_xs, Option.isNone]
  · rw [decide_eq_false q]
    simp (disch := omega) only [z, xn_div, xi_t, xn_k, xn_lt, xn_eq, xn_mul, xn_add, xn_sub, xn_dec, xn_m1, xn_1m, if_pos, if_neg, if_true, if_false, cond_true, cond_false, true_and, and_true, false_and, and_false, xr_cI_s, xr_cV_s, xr_cI_e, xr_cV_e, xm_xs, xs_xs, G.2.2.1 (half / 2) (by omega), q]
theorem fm247 (P : xPl (xm S) np nq ch st du pl dy dp) {half : Nat} (hh : half < 2 * nq) : xr_Call (d + 1) 247 [xP 0 69, xI (nI half)] ([], w) S = some (.inl (some (nI (pl (half / 2)))), ([], w), S) := by
  obtain ⟨⟨p0, p1, p2, p3⟩, ⟨m0, m1, m2, m3⟩, ⟨b0, b1, b2, b3, b4⟩, hp, hd⟩ := P
  obtain ⟨_, _, _, _, _, e4, _, _, _⟩ := hp (half / 2) (by omega)
  have z : ¬ nI 2 = 0 := by decide
  rw [xe247]
  simp (disch := omega) only [z, xn_div, xi_t, xn_k, xn_lt, xn_eq, xn_mul, xn_add, xn_sub, xn_dec, xn_m1, xn_1m, if_pos, if_neg, if_true, if_false, cond_true, cond_false, true_and, and_true, false_and, and_false, xr_cI_s, xr_cV_s, xr_cI_e, xr_cV_e, xm_xs, xs_xs, e4]
theorem fm248 (P : xPl (xm S) np nq ch st du pl dy dp) (e89 : xm S 0 89 = g) (W : xgW np nq pl g) (To : xTo (xm S) ln ti fl) {half : Nat} (hh : half < 2 * nq) : xr_Call (d + 2) 248 [xP 0 69, xI (nI half)] ([], w) S = some (.inl (some (cond (gfit fl pl g half) (nI 1) (nI 0))), ([], w), S) := by
  have b1 := P.2.2.1.2.1
  have z : ¬ nI 2 = 0 := by decide
  have l3 := (P.2.2.2.1 (half / 2) (by omega)).2.2.2.2.2.2.2.2
  obtain ⟨⟨_, o1, o2⟩, t1, t2, t3⟩ := To
  have eq : (xfst (fun k => fbad fl pl g half (ti k)) ln 0).isNone = (xfst (fbad fl pl g half) 6 0).isNone := by
    have e : (xfst (fun k => fbad fl pl g half (ti k)) ln 0).isSome = (xfst (fbad fl pl g half) 6 0).isSome := by
      apply xbool_ext
      rw [xfst_iff, xfst_iff]
      constructor
      · rintro ⟨k, _, hk, h⟩
        exact ⟨ti k, by omega, by have := (t2 k (by omega)).2.1; omega, h⟩
      · rintro ⟨i, _, hi, h⟩
        cases hq : fl i with
        | none => unfold fbad at h; rw [hq] at h; cases h
        | some v =>
          obtain ⟨k, hk, e⟩ := t3 i v (by omega) hq
          exact ⟨k, by omega, by omega, by show fbad fl pl g half (ti k) = true; rw [e]; exact h⟩
    rw [← Option.not_isSome, ← Option.not_isSome, e]
  rw [xe248]
  unfold gfit
  rw [← eq]
  simp (disch := omega) only [z, xn_div, if_false, gm206 (Or.inl rfl), e89, xr_cI_s, bI]
  by_cases q : g (8 + half / 2) = nI 0
  · rw [decide_eq_true q]
    simp (disch := omega) only [xi_t, xn_k, xn_lt, xn_eq, xn_mul, xn_add, xn_sub, xn_dec, xn_m1, xn_1m, if_pos, if_neg, if_true, if_false, cond_true, cond_false, true_and, and_true, false_and, and_false, xr_cI_s, xr_cV_s, xr_cI_e, xr_cV_e, xm_xs, xs_xs, q]
    refine (xl_fst (T := fun k => xr_Run (d + 1) 248 17 [xP 0 69, xI (nI half), xI (nI k)] [] ([], w) S) (R := fun _ => some (.inl (some (nI 0)), ([], w), S)) (c := fun k => fbad fl pl g half (ti k)) (n := ln) (fun k hk => ?_)).trans ?_
    · refine (xg248_17 _ _ _ _ _).trans ?_
      obtain ⟨r1, r2, v, r3, r4⟩ := t2 k hk
      have hv := (t1 (ti k) r2).2 v r3
      rw [fm247 P hh]
      unfold fbad
      rw [r3]
      dsimp only
      unfold fA
      obtain ⟨w1, w2, _⟩ := W.2 half (ti k) hh r2
      simp (disch := omega) only [xi_t, xn_k, xn_lt, xn_add, if_pos, cond_true, xr_cI_s, o1, r1, r4, xe201 d w _ 89 (Or.inl rfl), xn_mul, e89]
      rw [w1]
      by_cases q5 : ti k < pl (half / 2)
      · simp (disch := omega) only [q5, if_true, xn_eq]
        by_cases q6 : gN g (48 + 6 * half + ti k) = v
        · simp only [q6, if_true, decide_true, Bool.not_true, cond_false]
        · rw [if_neg q6, decide_eq_false (fun h => q6 h.symm)]; rfl
      · rw [if_neg q5, if_neg q5, decide_eq_false (by omega)]; rfl
    · cases xfst (fun k => fbad fl pl g half (ti k)) ln 0 with
      | some k => rfl
      | none =>
        refine (xg248_17 _ _ _ _ _).trans ?_
        simp (disch := omega) only [xi_t, xn_k, xn_lt, xn_eq, xn_mul, xn_add, xn_sub, xn_dec, xn_m1, xn_1m, if_pos, if_neg, if_true, if_false, cond_true, cond_false, true_and, and_true, false_and, and_false, xr_cI_s, xr_cV_s, xr_cI_e, xr_cV_e, xm_xs, xs_xs, o1, Option.isNone, Nat.lt_irrefl]
  · rw [decide_eq_false q]
    simp (disch := omega) only [xi_t, xn_k, xn_lt, xn_eq, xn_mul, xn_add, xn_sub, xn_dec, xn_m1, xn_1m, if_pos, if_neg, if_true, if_false, cond_true, cond_false, true_and, and_true, false_and, and_false, xr_cI_s, xr_cV_s, xr_cI_e, xr_cV_e, xm_xs, xs_xs, q]
theorem q_fits (I : xIq (xm S) np nq ch st du pl dy dp sz kd gv g h s ln ti fl) : qRes d 122 249 [] S 0 0 := by
  obtain ⟨P, ⟨Lc, Lm, Lv⟩, ⟨e89, G, W⟩, ⟨Hc, Hm, HI⟩, To⟩ := id I; obtain ⟨⟨p0, p1, p2, p3⟩, ⟨m0, m1, m2, m3⟩, ⟨b0, b1, b2, b3, b4⟩, hp, hd⟩ := id P
  refine Or.inl ⟨xfo (fun k b => cond (gfit fl pl g k) (b ||| (nI 1 <<< (nI k &&& 31))) b) (2 * nq) (nI 0), qOk_of ?_ ?_⟩
  · rw [xe122, xe95]
    have L := xl_acc (fun k b => xr_Run (d + 58) 95 5 [xP 0 63, xP 0 35, xP 0 3, xI b, xI (nI k)] [] xMd S) (fun k b => cond (gfit fl pl g k) (b ||| (nI 1 <<< (nI k &&& 31))) b) (n := 2 * nq) (nI 0) (fun k b hk => by
      refine (xg95_5 _ _ _ _ _).trans ?_
      rw [fc96 P G W To hk]
      cases gfit fl pl g k <;> simp (disch := omega) only [xi_t, xn_k, xn_lt, xn_eq, xn_mul, xn_add, xn_sub, xn_dec, xn_m1, xn_1m, if_pos, if_neg, if_true, if_false, cond_true, cond_false, true_and, and_true, false_and, and_false, xr_cI_s, xr_cV_s, xr_cI_e, xr_cV_e, xm_xs, xs_xs, p1])
    rw [L]
    rw [xg95_5]
    simp (disch := omega) only [xi_t, xn_k, xn_lt, xn_eq, xn_mul, xn_add, xn_sub, xn_dec, xn_m1, xn_1m, if_pos, if_neg, if_true, if_false, cond_true, cond_false, true_and, and_true, false_and, and_false, xr_cI_s, xr_cV_s, xr_cI_e, xr_cV_e, xm_xs, xs_xs, p1]
  · rw [xe249]; obtain ⟨T, hT, e0, I'⟩ := xT_ex I; rw [← hT]; obtain ⟨P', ⟨Lc', Lm', Lv'⟩, ⟨e89', G', W'⟩, ⟨Hc', Hm', HI'⟩, To'⟩ := id I'; obtain ⟨⟨p0', p1', p2', p3'⟩, ⟨m0', m1', m2', m3'⟩, ⟨b0', b1', b2', b3', b4'⟩, hp', hd'⟩ := id P'
    refine (xl_acc (fun k b => xr_Run (d + 59) 249 9 [xP 0 69, xI b, xI (nI k)] [] xMd T) (fun k b => cond (gfit fl pl g k) (b ||| (nI 1 <<< (nI k &&& 31))) b) (n := 2 * nq) (nI 0) (fun k b hk => ?_)).trans ?_
    · refine (xg249_9 _ _ _ _ _).trans ?_
      rw [fm248 P' e89' W To' hk]
      cases gfit fl pl g k <;> simp (disch := omega) only [xi_t, xn_k, xn_lt, xn_eq, xn_mul, xn_add, xn_sub, xn_dec, xn_m1, xn_1m, if_pos, if_neg, if_true, if_false, cond_true, cond_false, true_and, and_true, false_and, and_false, xr_cI_s, xr_cV_s, xr_cI_e, xr_cV_e, xm_xs, xs_xs, m1', xn_or0]
    · refine (xg249_9 _ _ _ _ _).trans ?_
      simp (disch := omega) only [xi_t, xn_k, xn_lt, xn_eq, xn_mul, xn_add, xn_sub, xn_dec, xn_m1, xn_1m, if_pos, if_neg, if_true, if_false, cond_true, cond_false, true_and, and_true, false_and, and_false, xr_cI_s, xr_cV_s, xr_cI_e, xr_cV_e, xm_xs, xs_xs, m1']
end
