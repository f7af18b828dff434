/-! QUESTIONS, 7: rings, class and model -/
theorem xfo_shift {β : Type} {f : Nat → β → β} : ∀ (n : Nat) (a : β), xfo f (n + 1) a = xfo (fun k => f (k + 1)) n (f 0 a)
  | 0, _ => rfl
  | n + 1, a => by rw [xfo, xfo_shift n a, xfo]
theorem rdg_fo : ∀ (L : List Nat) (n : Nat), xfo (fun k s => s * 10 + L.getD k 0 + 1) L.length n = rdg n L
  | [], _ => rfl
  | b :: l, n => by
    rw [List.length_cons, xfo_shift, rdg]
    have := rdg_fo l (10 * n + b + 1)
    rw [← this]
    have e : n * 10 + (b :: l).getD 0 0 + 1 = 10 * n + b + 1 := by
      show n * 10 + b + 1 = _
      omega
    rw [e]
    exact xfo_congr _ _ (fun k s _ => by simp)
def gO (nq : Nat) (du : Nat → Nat) (g : Nat → Int32) (p b : Nat) : Bool := decide (0 < gow nq du g (nI p) (nI b))
def gowb (np nq : Nat) (du : Nat → Nat) (g : Nat → Int32) (p : Nat) : Int32 := xfo (fun o b => cond (gO nq du g p o) (b ||| (nI 1 <<< (nI o &&& 31))) b) np (nI 0)
theorem gowb_t {nq : Nat} {du : Nat → Nat} {g : Nat → Int32} {p b : Nat} (hb : b < 31) : ∀ n, n < 31 → xbt (xfo (fun o b => cond (gO nq du g p o) (b ||| (nI 1 <<< (nI o &&& 31))) b) n (nI 0)) b = (decide (b < n) && gO nq du g p b)
  | 0, _ => by rw [xfo, xbt_0]; simp
  | n + 1, hn => by
    rw [xfo]
    have ih := gowb_t (nq := nq) (du := du) (g := g) (p := p) hb n (by omega)
    cases ho : gO nq du g p n with
    | true =>
      dsimp only [cond_true]
      rw [xbt_or (by omega) hb, ih]
      by_cases q : b = n
      · subst q; simp [ho]
      · by_cases q2 : b < n
        · simp [q, q2, show b < n + 1 by omega]
        · simp [q, q2, show ¬ b < n + 1 by omega]
    | false =>
      dsimp only [cond_false]
      rw [ih]
      by_cases q : b = n
      · subst q; simp [ho]
      · by_cases q2 : b < n
        · simp [q2, show b < n + 1 by omega]
        · simp [q2, show ¬ b < n + 1 by omega]
theorem gow_le {nq : Nat} {du : Nat → Nat} {g : Nat → Int32} {a b : Int32} (h : ∀ p, p < nq → du p ≤ 40) : gow nq du g a b ≤ nq * 40 := by
  unfold gow
  split
  · omega
  · exact xsN_le nq (fun k hk => by
      have := h k hk
      split <;> omega)
section
variable {O : Nat → Nat → Bool} {np a : Nat}
theorem rmf_some (hn : np ≤ 8) : ∀ (k x : Nat) (v : Int32) (l : List Nat), rmf O np a k x v = some l → (∀ b ∈ l, b < 8) ∧ l.length = k
  | 0, x, v, l, h => by
    rw [rmf] at h
    cases ho : O x a with
    | true => rw [ho] at h; cases h; exact ⟨fun b hb => absurd hb List.not_mem_nil, rfl⟩
    | false => rw [ho] at h; cases h
  | k + 1, x, v, l, h => by
    rw [rmf] at h
    obtain ⟨b, h1, h2, h3⟩ := rcin_some _ _ h
    cases hb : xbt v b with
    | true => rw [hb] at h3; cases h3
    | false =>
      rw [hb] at h3
      cases ho : O x b with
      | false => rw [ho] at h3; cases h3
      | true =>
        rw [ho] at h3
        cases hr : rmf O np a k b (v ||| (nI 1 <<< (nI b &&& 31))) with
        | none => rw [hr] at h3; cases h3
        | some l' =>
          rw [hr] at h3
          cases h3
          obtain ⟨g1, g2⟩ := rmf_some hn k b _ l' hr
          refine ⟨fun c hc => ?_, by simp [g2]⟩
          rcases List.mem_cons.mp hc with rfl | q
          · omega
          · exact g1 c q
theorem rres_le (hn : np ≤ 8) {k x dg e : Nat} {v : Int32} (hd : dg < 10 ^ e) (he : e + k ≤ 8) : rres (rmf O np a k x v) dg < 2147483648 := by
  unfold rres
  cases hr : rmf O np a k x v with
  | none => show 0 < 2147483648; omega
  | some l =>
    obtain ⟨g1, g2⟩ := rmf_some hn k x v l hr
    have h1 := rdg_le l dg (10 ^ e) hd g1
    rw [g2, ← Nat.pow_add] at h1
    have h2 : 10 ^ (e + k) ≤ 10 ^ 8 := Nat.pow_le_pow_right (by omega) he
    show rdg dg l < 2147483648
    omega
end
section
variable {d : Nat} {w : List Nat} {S : xr_S} {np nq ch st : Nat} {du pl : Nat → Nat} {dy : Nat → Int32} {dp : Nat → Nat → Nat} {sz : Nat} {kd : Nat → Nat} {gv g : Nat → Int32} {h : Nat → Nat} {s : Nat → Nat → Int32} {ln : Nat} {ti : Nat → Nat} {fl : Nat → Option Nat}
theorem rm234 (P : xPl (xm S) np nq ch st du pl dy dp) (e89 : xm S 0 89 = g) {a : Nat} (ha : a < np) : ∀ (k x dg e : Nat) (v : Int32), dg < 10 ^ e → 0 < dg → e + k ≤ 8 → xr_Call (d + k + 3) 234 [xP 0 69, xI (nI a), xI (nI x), xI v, xI (nI k), xI (nI dg)] ([], w) S = some (.inl (some (nI (rres (rmf (gO nq du g) np a k x v) dg))), ([], w), S)
  | 0, x, dg, e, v, h1, h2, h3 => by
    have b1 := P.2.2.1.2.1
    rw [xe234]
    have hg := gow_le (nq := nq) (du := du) (g := g) (a := nI x) (b := nI a) (fun p hp => (P.2.2.2.1 p hp).2.2.2.2.2.2.1)
    rw [gm229 P, e89]
    simp (disch := omega) only [xi_t, xn_k, xn_lt, xn_eq, xn_mul, xn_add, xn_sub, xn_dec, xn_m1, xn_1m, if_pos, if_neg, if_true, if_false, cond_true, cond_false, true_and, and_true, false_and, and_false, xr_cI_s, xr_cV_s, xr_cI_e, xr_cV_e, xm_xs, xs_xs, rmf]
    unfold gO
    by_cases q : 0 < gow nq du g (nI x) (nI a)
    · rw [if_pos q, decide_eq_true q]; rfl
    · rw [if_neg q, decide_eq_false q]; rfl
  | k + 1, x, dg, e, v, h1, h2, h3 => by
    have b0 := P.2.2.1.1
    have b1 := P.2.2.1.2.1
    have m0 := P.2.1.1
    have lp : ∀ (n j : Nat) (u : xr_V), j + n = np → a < j → xr_Run (d + k + 3) 234 26 [xP 0 69, xI (nI a), xI (nI x), xI v, xI (nI (k + 1)), xI (nI dg), xI (nI j), u] [] ([], w) S = some (.inl (some (nI (rres (rcin (fun b => cond (xbt v b) none (cond (gO nq du g x b) ((rmf (gO nq du g) np a k b (v ||| (nI 1 <<< (nI b &&& 31)))).map (fun l => b :: l)) none)) n j) dg))), ([], w), S) := by
      intro n
      induction n with
      | zero =>
        intro j u hj hja
        refine (xg234_26 _ _ _ _ _ _ _ _ _ _).trans ?_
        simp (disch := omega) only [xi_t, xn_k, xn_lt, xn_eq, xn_mul, xn_add, xn_sub, xn_dec, xn_m1, xn_1m, if_pos, if_neg, if_true, if_false, cond_true, cond_false, true_and, and_true, false_and, and_false, xr_cI_s, xr_cV_s, xr_cI_e, xr_cV_e, xm_xs, xs_xs, m0, rcin, rres]
      | succ n ih =>
        intro j u hj hja
        have t := xbt_t (x := v) (k := j) (by omega)
        refine (xg234_26 _ _ _ _ _ _ _ _ _ _).trans ?_
        rw [xe155]
        cases hb : xbt v j with
        | true =>
          rw [if_pos (t.mpr hb)]
          simp (disch := omega) only [xi_t, xn_k, xn_lt, xn_eq, xn_mul, xn_add, xn_sub, xn_dec, xn_m1, xn_1m, if_pos, if_neg, if_true, if_false, cond_true, cond_false, true_and, and_true, false_and, and_false, xr_cI_s, xr_cV_s, xr_cI_e, xr_cV_e, xm_xs, xs_xs, m0, rcin, hb]
          exact ih (j + 1) u (by omega) (by omega)
        | false =>
          have t2 : ¬ (((v >>> (nI j &&& 31)) &&& nI 1) = nI 1) := fun h => by rw [t.mp h] at hb; cases hb
          rw [if_neg t2]
          have hg := gow_le (nq := nq) (du := du) (g := g) (a := nI x) (b := nI j) (fun p hp => (P.2.2.2.1 p hp).2.2.2.2.2.2.1)
          by_cases q : 0 < gow nq du g (nI x) (nI j)
          · have hO : gO nq du g x j = true := decide_eq_true q
            have hd2 : 10 * dg + j + 1 < 10 ^ (e + 1) := by rw [Nat.pow_succ]; omega
            have r := rm234 P e89 ha k j (10 * dg + j + 1) (e + 1) (v ||| (nI 1 <<< (nI j &&& 31))) hd2 (by omega) (by omega)
            have hl := rres_le (O := gO nq du g) (a := a) (k := k) (x := j) (v := v ||| (nI 1 <<< (nI j &&& 31))) b0 hd2 (by omega)
            have hl2 : dg < 10 ^ 8 := Nat.lt_of_lt_of_le h1 (Nat.pow_le_pow_right (by omega) (by omega))
            have q2 : ¬ gow nq du g (nI x) (nI j) = 0 := by omega
            simp (disch := omega) only [xi_t, xn_k, xn_lt, xn_eq, xn_mul, xn_add, xn_sub, if_pos, if_true, if_false, cond_true, cond_false, xr_cI_s, m0, gm229 P, e89, q2, Nat.add_sub_cancel, r, rcin, hb, hO]
            cases hr : rmf (gO nq du g) np a k j (v ||| (nI 1 <<< (nI j &&& 31))) with
            | none =>
              simp (disch := omega) only [rres, Option.map, Nat.lt_irrefl, if_false]
              exact ih (j + 1) _ (by omega) (by omega)
            | some l =>
              have hp := rdg_pos l (10 * dg + j + 1) (by omega)
              rw [if_pos (show 0 < rres (some l) (10 * dg + j + 1) from hp)]
              rfl
          · have hO : gO nq du g x j = false := decide_eq_false q
            have q2 : gow nq du g (nI x) (nI j) = 0 := by omega
            simp (disch := omega) only [xi_t, xn_k, xn_lt, xn_eq, xn_mul, xn_add, xn_sub, xn_dec, xn_m1, xn_1m, if_pos, if_neg, if_true, if_false, cond_true, cond_false, true_and, and_true, false_and, and_false, xr_cI_s, xr_cV_s, xr_cI_e, xr_cV_e, xm_xs, xs_xs, m0, gm229 P, e89, q2, rcin, hb, hO]
            exact ih (j + 1) u (by omega) (by omega)
    rw [xe234]
    simp (disch := omega) only [xi_t, xn_k, xn_lt, xn_eq, xn_mul, xn_add, xn_sub, xn_dec, xn_m1, xn_1m, if_pos, if_neg, if_true, if_false, cond_true, cond_false, true_and, and_true, false_and, and_false, xr_cI_s, xr_cV_s, xr_cI_e, xr_cV_e, xm_xs, xs_xs]
    rw [rmf]
    exact lp (np - (a + 1)) (a + 1) xU (by omega) (by omega)
theorem gow_r (P : xPl (xm S) np nq ch st du pl dy dp) (G : xGr (xm S) 0 3 np nq pl g) : ∃ M, xr_Call (d + 12) 69 [xP 0 27, xP 0 35, xP 0 3] ([], w) S = some (.inl none, ([], w), xs S M) ∧ (match rfind (gO nq du g) np with | none => M 0 27 2 = nI 0 | some r => M 0 27 2 = nI r.1 ∧ M 0 28 0 = nI r.2.1 ∧ ∀ i, i < r.1 - 1 → M 0 28 (1 + i) = nI (r.2.2.getD i 0)) ∧ ∀ b e, ¬ (b = 0 ∧ (e = 27 ∨ e = 28 ∨ e = 29)) → M b e = xm S b e := by
  have b0 := P.2.2.1.1
  have b1 := P.2.2.1.2.1
  have l1 : ∀ n, n ≤ np → ∃ M v, xr_Run (d + 11) 69 2 [xP 0 27, xP 0 35, xP 0 3, xI (nI 0), xU] [] ([], w) S = xr_Run (d + 11) 69 2 [xP 0 27, xP 0 35, xP 0 3, xI (nI n), v] [] ([], w) (xs S M) ∧ (∀ p, p < n → M 0 29 p = gowb np nq du g p) ∧ ∀ b e, ¬ (b = 0 ∧ e = 29) → M b e = xm S b e := by
    intro n
    induction n with
    | zero => intro _; exact ⟨xm S, xU, by rw [xs_xm], fun p hp => by omega, fun _ _ _ => rfl⟩
    | succ p ih =>
      intro hp
      obtain ⟨M, v, r, c, F⟩ := ih (by omega)
      have l2 : ∀ n, n ≤ np → ∃ M', xr_Run (d + 11) 69 20 [xP 0 27, xP 0 35, xP 0 3, xI (nI p), xI (nI 0)] [] ([], w) (xs S (xw M 0 29 p (nI 0))) = xr_Run (d + 11) 69 20 [xP 0 27, xP 0 35, xP 0 3, xI (nI p), xI (nI n)] [] ([], w) (xs S M') ∧ M' 0 29 p = xfo (fun o b => cond (gO nq du g p o) (b ||| (nI 1 <<< (nI o &&& 31))) b) n (nI 0) ∧ (∀ i, ¬ i = p → M' 0 29 i = M 0 29 i) ∧ ∀ b e, ¬ (b = 0 ∧ e = 29) → M' b e = xm S b e := by
        intro n
        induction n with
        | zero => intro _; exact ⟨_, rfl, xw_y (by omega), fun i hi => xw_n (by omega), fun b e h => by rw [xw_r h, F b e h]⟩
        | succ n ih2 =>
          intro hn
          obtain ⟨M', r', c1, c2, F'⟩ := ih2 (by omega)
          have P1 : xPl (xm (xs S M')) np nq ch st du pl dy dp := xPl_fr (fun b e he => F' b e (by omega)) P
          have G1 : xGr (xm (xs S M')) 0 3 np nq pl g := xGr_fr (fun e h1 h2 => F' 0 e (by omega)) G
          have p0 := P1.1.1
          rw [xm_xs] at p0
          have hg := gow_le (nq := nq) (du := du) (g := g) (a := nI p) (b := nI n) (fun p hp => (P.2.2.2.1 p hp).2.2.2.2.2.2.1)
          by_cases q : 0 < gow nq du g (nI p) (nI n)
          · have hO : gO nq du g p n = true := decide_eq_true q
            refine ⟨xw M' 0 29 p (M' 0 29 p ||| (nI 1 <<< (nI n &&& 31))), ?_, ?_, fun i hi => by rw [xw_n (by omega)]; exact c2 i hi, fun b e h => by rw [xw_r h]; exact F' b e h⟩
            · rw [r']
              refine (xg69_20 _ _ _ _ _).trans ?_
              simp (disch := omega) only [xi_t, xn_k, xn_lt, xn_eq, xn_mul, xn_add, xn_sub, xn_dec, xn_m1, xn_1m, if_pos, if_neg, if_true, if_false, cond_true, cond_false, true_and, and_true, false_and, and_false, xr_cI_s, xr_cV_s, xr_cI_e, xr_cV_e, xm_xs, xs_xs, p0, gc20 (Or.inl rfl) P1 G1]
            · rw [xw_y (by omega), xfo, hO, c1]; rfl
          · have hO : gO nq du g p n = false := decide_eq_false q
            refine ⟨M', ?_, ?_, c2, F'⟩
            · rw [r']
              refine (xg69_20 _ _ _ _ _).trans ?_
              simp (disch := omega) only [xi_t, xn_k, xn_lt, xn_eq, xn_mul, xn_add, xn_sub, xn_dec, xn_m1, xn_1m, if_pos, if_neg, if_true, if_false, cond_true, cond_false, true_and, and_true, false_and, and_false, xr_cI_s, xr_cV_s, xr_cI_e, xr_cV_e, xm_xs, xs_xs, p0, gc20 (Or.inl rfl) P1 G1]
            · rw [xfo, hO, c1]; rfl
      obtain ⟨M', r', c1, c2, F'⟩ := l2 np (Nat.le_refl _)
      have p0 : M 0 35 0 = nI np := by rw [F 0 35 (by omega)]; exact P.1.1
      have p0' : M' 0 35 0 = nI np := by rw [F' 0 35 (by omega)]; exact P.1.1
      refine ⟨M', xI (nI np), ?_, fun i hi => ?_, F'⟩
      · rw [r]
        refine (xg69_2 _ _ _ _ _).trans ?_
        simp (disch := omega) only [xi_t, xn_k, xn_lt, xn_eq, xn_mul, xn_add, xn_sub, xn_dec, xn_m1, xn_1m, if_pos, if_neg, if_true, if_false, cond_true, cond_false, true_and, and_true, false_and, and_false, xr_cI_s, xr_cV_s, xr_cI_e, xr_cV_e, xm_xs, xs_xs, p0]
        rw [r']
        refine (xg69_20 _ _ _ _ _).trans ?_
        simp (disch := omega) only [xi_t, xn_k, xn_lt, xn_eq, xn_mul, xn_add, xn_sub, xn_dec, xn_m1, xn_1m, if_pos, if_neg, if_true, if_false, cond_true, cond_false, true_and, and_true, false_and, and_false, xr_cI_s, xr_cV_s, xr_cI_e, xr_cV_e, xm_xs, xs_xs, p0', Nat.lt_irrefl]
      · by_cases q : i = p
        · subst q; exact c1
        · rw [c2 i q]; exact c i (by omega)
  obtain ⟨M1, v1, r1, c1, F1⟩ := l1 np (Nat.le_refl _)
  have hO : ∀ p b, p < np → b < np → xbt (gowb np nq du g p) b = gO nq du g p b := fun p b hp hb => by
    unfold gowb
    rw [gowb_t (by omega) np (by omega)]
    simp [hb]
  have l3 : ∀ (n j : Nat) (S' : xr_S) (v : xr_V), j + n = np - 1 → (∀ p, p < np → xm S' 0 29 p = gowb np nq du g p) → xm S' 0 27 2 = nI 0 → xm S' 0 35 0 = nI np → ∃ M, xr_Run (d + 11) 69 72 [xP 0 27, xP 0 35, xP 0 3, xI (nI (j + 2)), v] [] ([], w) S' = some (.inl none, ([], w), xs S' M) ∧ (match rcin (fun k => (rall (gO nq du g) np k).map (fun r => (k + 2, r))) n j with | none => M 0 27 2 = nI 0 | some r => M 0 27 2 = nI r.1 ∧ M 0 28 0 = nI r.2.1 ∧ ∀ i, i < r.1 - 1 → M 0 28 (1 + i) = nI (r.2.2.getD i 0)) ∧ ∀ b e, ¬ (b = 0 ∧ (e = 27 ∨ e = 28)) → M b e = xm S' b e := by
    intro n
    induction n with
    | zero =>
      intro j S' v hj ho hz hp0
      refine ⟨xm S', ?_, hz, fun _ _ _ => rfl⟩
      refine (xg69_72 _ _ _ _ _).trans ?_
      simp (disch := omega) only [xi_t, xn_k, xn_lt, xn_eq, xn_mul, xn_add, xn_sub, xn_dec, xn_m1, xn_1m, if_pos, if_neg, if_true, if_false, cond_true, cond_false, true_and, and_true, false_and, and_false, xr_cI_s, xr_cV_s, xr_cI_e, xr_cV_e, xm_xs, xs_xs, hp0, xs_xm]
    | succ n ih =>
      intro j S' v hj ho hz hp0
      obtain ⟨M, r, c, f27, F⟩ := rc70 (d := d + 1) (w := w) (S := S') b0 hO (k := j) (by omega) ho hz
      cases hr : rall (gO nq du g) np j with
      | some q =>
        rw [hr] at c
        obtain ⟨c1, c2, c3⟩ := c
        refine ⟨M, ?_, ?_, F⟩
        · refine (xg69_72 _ _ _ _ _).trans ?_
          simp (disch := omega) only [xi_t, xn_k, xn_lt, xn_eq, xn_mul, xn_add, xn_sub, xn_dec, xn_m1, xn_1m, if_pos, if_neg, if_true, if_false, cond_true, cond_false, true_and, and_true, false_and, and_false, xr_cI_s, xr_cV_s, xr_cI_e, xr_cV_e, xm_xs, xs_xs, hp0, hz, r]
          refine (xg69_72 _ _ _ _ _).trans ?_
          have hp0' : M 0 35 0 = nI np := by rw [F 0 35 (by omega)]; exact hp0
          rw [xm_xs, hp0', c1]
          simp (disch := omega) only [xn_lt, xn_eq]
          split <;> rfl
        · simp only [rcin, hr, Option.map]
          exact ⟨c1, c2, fun i hi => c3 i (by omega)⟩
      | none =>
        rw [hr] at c
        obtain ⟨M2, r2, d1, F2⟩ := ih (j + 1) (xs S' M) v (by omega) (fun p hp => by rw [xm_xs, F 0 29 (by omega)]; exact ho p hp) c (by rw [xm_xs, F 0 35 (by omega)]; exact hp0)
        rw [xs_xs] at r2
        rw [xm_xs] at F2
        refine ⟨M2, ?_, ?_, fun b e h => by rw [F2 b e h, F b e h]⟩
        · refine (xg69_72 _ _ _ _ _).trans ?_
          simp (disch := omega) only [xi_t, xn_k, xn_lt, xn_eq, xn_mul, xn_add, xn_sub, xn_dec, xn_m1, xn_1m, if_pos, if_neg, if_true, if_false, cond_true, cond_false, true_and, and_true, false_and, and_false, xr_cI_s, xr_cV_s, xr_cI_e, xr_cV_e, xm_xs, xs_xs, hp0, hz, r]
          exact r2
        · simp only [rcin, hr, Option.map]
          exact d1
  obtain ⟨M2, r2, c2, F2⟩ := l3 (np - 1) 0 (xs S (xw M1 0 27 2 (nI 0))) v1 (by omega) (fun p hp => by rw [xm_xs, xw_n (by omega)]; exact c1 p hp) (by rw [xm_xs, xw_y (by omega)]) (by rw [xm_xs, xw_n (by omega), F1 0 35 (by omega)]; exact P.1.1)
  rw [xs_xs] at r2
  refine ⟨M2, ?_, c2, fun b e h => ?_⟩
  · rw [xe69, r1]
    refine (xg69_2 _ _ _ _ _).trans ?_
    have p0 : M1 0 35 0 = nI np := by rw [F1 0 35 (by omega)]; exact P.1.1
    simp (disch := omega) only [xi_t, xn_k, xn_lt, xn_eq, xn_mul, xn_add, xn_sub, xn_dec, xn_m1, xn_1m, if_pos, if_neg, if_true, if_false, cond_true, cond_false, true_and, and_true, false_and, and_false, xr_cI_s, xr_cV_s, xr_cI_e, xr_cV_e, xm_xs, xs_xs, p0, Nat.lt_irrefl]
    exact r2
  · rw [F2 b e (by omega), xm_xs, xw_r (by omega), F1 b e (by omega)]
theorem rm235 (P : xPl (xm S) np nq ch st du pl dy dp) (e89 : xm S 0 89 = g) {k : Nat} (hk : k ≤ 1) : ∀ (n j : Nat) (u1 u2 : xr_V), j + n = np - 1 → (∀ i, i < j → rall (gO nq du g) np i = none) → xr_Run (d + 20) 235 32 [xP 0 69, xI (nI k), xI (nI (j + 2)), u1, u2] [] ([], w) S = some (.inl (some (match rcin (fun k => (rall (gO nq du g) np k).map (fun r => (k + 2, r))) n j with | none => -1 | some r => if k = 0 then nI r.1 else nI (rdg (r.2.1 + 1) r.2.2))), ([], w), S) := by
  have b0 := P.2.2.1.1
  have m0 := P.2.1.1
  intro n
  induction n with
  | zero =>
    intro j u1 u2 hj h0
    refine (xg235_32 _ _ _ _ _ _ _).trans ?_
    simp (disch := omega) only [xi_t, xn_k, xn_lt, xn_eq, xn_mul, xn_add, xn_sub, xn_dec, xn_m1, xn_1m, if_pos, if_neg, if_true, if_false, cond_true, cond_false, true_and, and_true, false_and, and_false, xr_cI_s, xr_cV_s, xr_cI_e, xr_cV_e, xm_xs, xs_xs, m0, rcin]
  | succ n ih =>
    intro j u1 u2 hj h0
    have top : ∀ a, a < np → rcf (gO nq du g) np a (j + 1) a = rmf (gO nq du g) np a (j + 1) a (nI 1 <<< (nI a &&& 31)) := fun a ha => rcf_top b0 ha (fun i h1 h2 => by
      have h3 := h0 (i - 1) (by omega)
      unfold rall at h3
      have h4 := rcin_none _ _ h3 a (by omega) (by omega)
      rw [show i - 1 + 1 = i by omega] at h4
      cases hr : rcf (gO nq du g) np a i a with
      | none => rfl
      | some l => rw [hr] at h4; cases h4)
    have lp : ∀ (n2 a : Nat) (u : xr_V), a + n2 = np → ∃ u', xr_Run (d + 20) 235 44 [xP 0 69, xI (nI k), xI (nI (j + 2)), xI (nI a), u] [] ([], w) S = (match rcin (fun a => (rcf (gO nq du g) np a (j + 1) a).map (fun l => (a, l))) n2 a with | some r => some (.inl (some (if k = 0 then nI (j + 2) else nI (rdg (r.1 + 1) r.2))), ([], w), S) | none => xr_Run (d + 20) 235 32 [xP 0 69, xI (nI k), xI (nI (j + 2 + 1)), xI (nI np), u'] [] ([], w) S) := by
      intro n2
      induction n2 with
      | zero =>
        intro a u ha
        refine ⟨u, ?_⟩
        refine (xg235_44 _ _ _ _ _ _ _).trans ?_
        rw [show a = np by omega]
        simp (disch := omega) only [xi_t, xn_k, xn_lt, xn_eq, xn_mul, xn_add, xn_sub, xn_dec, xn_m1, xn_1m, if_pos, if_neg, if_true, if_false, cond_true, cond_false, true_and, and_true, false_and, and_false, xr_cI_s, xr_cV_s, xr_cI_e, xr_cV_e, xm_xs, xs_xs, m0, rcin, Nat.lt_irrefl]
      | succ n2 ih2 =>
        intro a u ha
        have hd2 : a + 1 < 10 ^ 1 := by omega
        have r := rm234 (d := d + 17 - (j + 1)) (w := w) P e89 (a := a) (by omega) (j + 1) a (a + 1) 1 (nI 1 <<< (nI a &&& 31)) hd2 (by omega) (by omega)
        rw [show d + 17 - (j + 1) + (j + 1) + 3 = d + 20 by omega, ← top a (by omega)] at r
        have hl := rres_le (O := gO nq du g) (a := a) (k := j + 1) (x := a) (v := nI 1 <<< (nI a &&& 31)) b0 hd2 (by omega)
        rw [← top a (by omega)] at hl
        obtain ⟨u', e'⟩ := ih2 (a + 1) (xI (nI 0)) (by omega)
        cases hr : rcf (gO nq du g) np a (j + 1) a with
        | some l =>
          rw [hr] at r hl
          have hp := rdg_pos l (a + 1) (by omega)
          refine ⟨u', ?_⟩
          refine (xg235_44 _ _ _ _ _ _ _).trans ?_
          simp only [rres] at r hl
          simp (disch := omega) only [xi_t, xn_k, xn_lt, xn_eq, xn_add, xn_sub, if_pos, cond_true, xr_cI_s, m0, show j + 2 - 1 = j + 1 by omega, r, rcin, hr, Option.map]
          split <;> rfl
        | none =>
          rw [hr] at r
          refine ⟨u', ?_⟩
          refine (xg235_44 _ _ _ _ _ _ _).trans ?_
          simp only [rres] at r
          simp (disch := omega) only [xi_t, xn_k, xn_lt, xn_add, xn_sub, if_pos, cond_true, xr_cI_s, m0, show j + 2 - 1 = j + 1 by omega, r, rcin, hr, Option.map, Nat.lt_irrefl, if_false]
          exact e'
    obtain ⟨u', e'⟩ := lp np 0 u2 (by omega)
    refine (xg235_32 _ _ _ _ _ _ _).trans ?_
    simp (disch := omega) only [xi_t, xn_k, xn_lt, xn_eq, xn_mul, xn_add, xn_sub, xn_dec, xn_m1, xn_1m, if_pos, if_neg, if_true, if_false, cond_true, cond_false, true_and, and_true, false_and, and_false, xr_cI_s, xr_cV_s, xr_cI_e, xr_cV_e, xm_xs, xs_xs, m0]
    rw [e', show rcin (fun a => (rcf (gO nq du g) np a (j + 1) a).map (fun l => (a, l))) np 0 = rall (gO nq du g) np j from rfl]
    cases hr : rall (gO nq du g) np j with
    | some r => simp only [rcin, hr, Option.map]
    | none =>
      simp only [rcin, hr, Option.map]
      exact ih (j + 1) (xI (nI np)) u' (by omega) (fun i hi => by
        rcases Nat.lt_or_ge i j with q | q
        · exact h0 i q
        · rw [show i = j by omega]; exact hr)
theorem rfind_b {O : Nat → Nat → Bool} {r : Nat × Nat × List Nat} (hn : np ≤ 8) (h : rfind O np = some r) : 2 ≤ r.1 ∧ r.1 ≤ 8 ∧ r.2.1 < 8 ∧ r.2.2.length = r.1 - 1 ∧ ∀ b ∈ r.2.2, b < 8 := by
  obtain ⟨k, _, hk, e⟩ := rcin_some _ _ h
  cases hr : rall O np k with
  | none => rw [hr] at e; cases e
  | some q =>
    rw [hr] at e
    cases e
    obtain ⟨a, _, ha, e2⟩ := rcin_some _ _ hr
    cases hc : rcf O np a (k + 1) a with
    | none => rw [hc] at e2; cases e2
    | some l =>
      rw [hc] at e2
      cases e2
      obtain ⟨g1, g2⟩ := rcf_some _ _ _ hc
      exact ⟨by dsimp only; omega, by dsimp only; omega, by dsimp only; omega, by simpa using g2, fun b hb => by have := (rcw_gt l a g1 b hb).2; omega⟩
theorem q_ring (I : xIq (xm S) np nq ch st du pl dy dp sz kd gv g h s ln ti fl) (a : Int32) : qRes d 129 235 [xI a] S 0 1 := by
  obtain ⟨P, ⟨Lc, Lm, Lv⟩, ⟨e89, G, W⟩, ⟨Hc, Hm, HI⟩, To⟩ := id I; obtain ⟨⟨p0, p1, p2, p3⟩, ⟨m0, m1, m2, m3⟩, ⟨b0, b1, b2, b3, b4⟩, hp, hd⟩ := id P
  by_cases q : xrg a 0 1
  · obtain ⟨k, _, hk, rfl⟩ := q
    obtain ⟨M1, r1, c1, F1⟩ := gow_r (d := d + 47) (w := [35, 44, 53, 58, 63, 66]) P G
    have I1 : xIq (xm (xs S (xw M1 0 69 0 (nI 0)))) np nq ch st du pl dy dp sz kd gv g h s ln ti fl := xIq_fr (M := xm S) ⟨fun b e h1 h2 h3 => by rw [xm_xs, xw_r (by omega), F1 b e (by omega)], by rw [xm_xs, xw_n (by omega), F1 0 69 (by omega)], by rw [xm_xs, xw_n (by omega), F1 0 69 (by omega)]⟩ I
    have r2 := rm235 (d := d + 39) (w := [35, 44, 53, 58, 63, 66]) I1.1 I1.2.2.1.1 hk (np - 1) 0 xU xU (by omega) (fun i hi => by omega)
    refine Or.inl ⟨match rfind (gO nq du g) np with | none => -1 | some r => if k = 0 then nI r.1 else nI (rdg (r.2.1 + 1) r.2.2), M1, xw M1 0 69 0 (nI 0), ?_, ?_, xw_y (by omega), fun b e h => ?_, fun j h1 h2 => ?_⟩
    · rw [xe129]
      rw [qc141y (Nat.zero_le k) hk (by omega), xr_cV_s, r1, xr_cV_s]
      cases hr : rfind (gO nq du g) np with
      | none =>
        rw [hr] at c1
        rw [if_pos (show xm (xs S M1) 0 27 2 = nI 0 from c1)]
      | some r =>
        rw [hr] at c1
        obtain ⟨c2, c3, c4⟩ := c1
        obtain ⟨g1, g2, g3, g4, g5⟩ := rfind_b b0 hr
        rw [if_neg (by rw [xm_xs, c2, xn_eq (by omega) (by omega)]; omega)]
        by_cases q0 : k = 0
        · rw [if_pos (by rw [q0]), xm_xs, c2]
          simp only [q0, if_true]
        · rw [if_neg (by rw [xn_eq (by omega) (by omega)]; exact q0), xe72]
          simp only [q0, if_false]
          have e := rdg_fo (r.2.1 :: r.2.2) 0
          rw [List.length_cons, g4, show r.1 - 1 + 1 = r.1 by omega, rdg, show 10 * 0 + r.2.1 + 1 = r.2.1 + 1 by omega] at e
          have row : ∀ i, i < r.1 → M1 0 28 i = nI ((r.2.1 :: r.2.2).getD i 0) := fun i hi => by
            cases i with
            | zero => exact c3
            | succ i => rw [Nat.add_comm i 1, c4 i (by omega), Nat.add_comm 1 i]; rfl
          have L := xl_acc (fun i (s : Nat) => xr_Run (d + 58) 72 4 [xP 0 27, xI (nI s), xI (nI i)] [] xMd (xs S M1)) (fun i s => s * 10 + (r.2.1 :: r.2.2).getD i 0 + 1) (n := r.1) 0 (fun i s hi => by
            refine (xg72_4 _ _ _ _ _).trans ?_
            simp (disch := omega) only [xi_t, xn_k, xn_lt, xn_mul, xn_add, if_pos, cond_true, xm_xs, c2, row i hi])
          rw [L]
          rw [xg72_4, xm_xs, c2, if_neg (by rw [xn_lt (by omega) (by omega)]; omega), xr_cI_s, e]
    · rw [xe235]
      have e0 : xm (xs S (xw M1 0 69 0 (nI 0))) 0 69 0 = nI 0 := by rw [xm_xs, xw_y (by omega)]
      simp (disch := omega) only [xi_t, xn_k, xn_lt, xn_eq, xn_mul, xn_add, xn_sub, xn_dec, xn_m1, xn_1m, if_pos, if_neg, if_true, if_false, cond_true, cond_false, true_and, and_true, false_and, and_false, xr_cI_s, xr_cV_s, xr_cI_e, xr_cV_e, xm_xs, xs_xs, qm152y (Nat.zero_le k) hk, qm151f _ _ e0]
      exact r2
    · rw [xw_r (by omega), F1 b e (by omega)]
    · rw [xw_n (by omega), F1 0 69 (by omega)]
  · refine Or.inr (Or.inr ⟨by omega, qNo_of (nI 0) (by omega) ?_ (fun T hT => ?_)⟩)
    · rw [xe129]; simp (disch := omega) only [xi_t, xn_k, xn_lt, xn_eq, xn_mul, xn_add, xn_sub, xn_dec, xn_m1, xn_1m, if_pos, if_neg, if_true, if_false, cond_true, cond_false, true_and, and_true, false_and, and_false, xr_cI_s, xr_cV_s, xr_cI_e, xr_cV_e, xm_xs, xs_xs, qc141n (by omega) (by omega) q]
    · rw [xe235]; have e0 : xm (xs T (xw (xm T) 0 69 0 (nI 0))) 0 69 0 = nI 0 := (by rw [xm_xs, xw_y (by omega)])
      simp (disch := omega) only [xi_t, xn_k, xn_lt, xn_eq, xn_mul, xn_add, xn_sub, xn_dec, xn_m1, xn_1m, if_pos, if_neg, if_true, if_false, cond_true, cond_false, true_and, and_true, false_and, and_false, xr_cI_s, xr_cV_s, xr_cI_e, xr_cV_e, xm_xs, xs_xs, qm152n (by omega) (by omega) q, qm151t (t := 1) (r := 1) (by omega) (by omega) (by omega) e0]
end
