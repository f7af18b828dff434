/-! THE GROUND: more that is asked of it; the model's side -/
theorem gclaim_mono {nq : Nat} {du : Nat → Nat} {dy : Nat → Int32} {g : Nat → Int32} {l l' : Nat} (h : l ≤ l') : gclaim nq du dy g l ≤ gclaim nq du dy g l' := by
  unfold gclaim
  induction nq with
  | zero => exact Nat.le_refl _
  | succ n ih =>
    rw [xsN, xsN]
    split
    · omega
    · omega
def glev (nq : Nat) (du : Nat → Nat) (dy : Nat → Int32) (g : Nat → Int32) (n : Nat) : Nat := xfo (fun k b => if n < gclaim nq du dy g (k + 1) then b else k + 1) 40 0
def gbnd (nq : Nat) (du : Nat → Nat) (dy : Nat → Int32) (g : Nat → Int32) (n : Nat) : Nat := (xfst (fun k => decide (n < gclaim nq du dy g (k + 1))) 40 0).getD 40
theorem glev_eq {nq : Nat} {du : Nat → Nat} {dy : Nat → Int32} {g : Nat → Int32} {n : Nat} : glev nq du dy g n = gbnd nq du dy g n := by
  have key : ∀ B, B ≤ 40 → (∀ k, k < B → ¬ n < gclaim nq du dy g (k + 1)) → (B < 40 → n < gclaim nq du dy g (B + 1)) → glev nq du dy g n = B := by
    intro B hB h1 h2
    have L : ∀ j, j ≤ 40 → xfo (fun k b => if n < gclaim nq du dy g (k + 1) then b else k + 1) j 0 = min j B := by
      intro j
      induction j with
      | zero => intro _; rw [xfo]; omega
      | succ j ih =>
        intro hj
        rw [xfo, ih (by omega)]
        by_cases q : j < B
        · rw [if_neg (h1 j q)]; omega
        · have := h2 (by omega)
          have := gclaim_mono (nq := nq) (du := du) (dy := dy) (g := g) (l := B + 1) (l' := j + 1) (by omega)
          rw [if_pos (by omega)]; omega
    unfold glev
    rw [L 40 (Nat.le_refl _)]
    omega
  unfold gbnd
  cases hf : xfst (fun k => decide (n < gclaim nq du dy g (k + 1))) 40 0 with
  | none =>
    refine key 40 (Nat.le_refl _) (fun k hk => of_decide_eq_false (xfst_none _ _ hf k (by omega) (by omega))) (fun h => by omega)
  | some B =>
    obtain ⟨_, h2, h3, h4⟩ := xfst_some _ _ _ hf
    refine key B (by omega) (fun k hk => of_decide_eq_false (h4 k (by omega) hk)) (fun _ => of_decide_eq_true h3)
theorem gap_split {g : Nat → Int32} {a b : Nat} : ∀ n, gap g a b n = xsN (fun i => gN g (48 + 6 * a + i) - gN g (48 + 6 * b + i)) n + xsN (fun i => gN g (48 + 6 * b + i) - gN g (48 + 6 * a + i)) n := fun n => xsN_add n
theorem gap_six {np nq : Nat} {pl : Nat → Nat} {g : Nat → Int32} (W : xgW np nq pl g) {a b n : Nat} (ha : a < 2 * nq) (hb : b < 2 * nq) (ea : pl (a / 2) = n) (eb : pl (b / 2) = n) (hn : n ≤ 6) : gap g a b 6 = gap g a b n := by
  have L : ∀ m, n ≤ m → m ≤ 6 → gap g a b m = gap g a b n := by
    intro m
    induction m with
    | zero => intro h1 _; rw [show n = 0 by omega]
    | succ m ih =>
      intro h1 h2
      rcases Nat.eq_or_lt_of_le h1 with q | q
      · rw [q]
      · have e := ih (by omega) (by omega)
        unfold gap at e ⊢
        rw [xsN, e]
        have z1 := (W.2 a m ha (by omega)).2.2 (by omega)
        have z2 := (W.2 b m hb (by omega)).2.2 (by omega)
        unfold gdist
        rw [z1, z2]
        omega
  exact L 6 hn (Nat.le_refl _)
/-- the chips that half a wants to pass for b -/
def gchips (ch : Nat) (pl : Nat → Nat) (g : Nat → Int32) (a b : Nat) : Option Nat := if pl (a / 2) = pl (b / 2) then (if ch < xsN (fun i => gN g (48 + 6 * b + i) - gN g (48 + 6 * a + i)) (pl (a / 2)) then none else some (gap g a b (pl (a / 2)) - ch)) else none
section
variable {d : Nat} {w : List Nat} {S : xr_S} {c : Nat} {np nq ch st : Nat} {du pl : Nat → Nat} {dy : Nat → Int32} {dp : Nat → Nat → Nat} {g : Nat → Int32}
theorem gc22 (hc : c = 3 ∨ c = 12) (P : xPl (xm S) np nq ch st du pl dy dp) (G : xGr (xm S) 0 c np nq pl g) {n : Nat} (hn : n < 1000) : xr_Call (d + 3) 22 [xP 0 c, xP 0 35, xI (nI n)] ([], w) S = some (.inl (some (nI (glev nq du dy g n))), ([], w), S) := by
  have hb : ∀ l, gclaim nq du dy g l ≤ nq * l := fun l => xsN_le nq (fun k _ => by split <;> omega)
  have b1 := P.2.2.1.2.1
  rw [xe22 (d + 2) w S c hc]
  refine (xl_acc (fun k (b : Nat) => xr_Run (d + 2) 22 5 [xP 0 c, xP 0 35, xI (nI n), xI (nI b), xI (nI (k + 1))] [] ([], w) S) (fun k b => if n < gclaim nq du dy g (k + 1) then b else k + 1) (n := 40) 0 (fun k b hk => ?_)).trans ?_
  · refine (xg22_5 _ _ _ _ hc _ _ _).trans ?_
    rw [gc23 hc P G (by omega)]
    have := hb (k + 1)
    have : nq * (k + 1) ≤ 8 * 40 := Nat.mul_le_mul b1 (by omega)
    simp (disch := omega) only [xi_t, xn_k, xn_lt, xn_eq, xn_mul, xn_add, xn_sub, xn_dec, xn_m1, xn_1m, if_pos, if_neg, if_true, if_false, cond_true, cond_false, true_and, and_true, false_and, and_false, xr_cI_s, xr_cV_s, xr_cI_e, xr_cV_e, xm_xs, xs_xs]
    split <;> rfl
  · refine (xg22_5 _ _ _ _ hc _ _ _).trans ?_
    simp (disch := omega) only [xi_t, xn_k, xn_lt, xn_eq, xn_mul, xn_add, xn_sub, xn_dec, xn_m1, xn_1m, if_pos, if_neg, if_true, if_false, cond_true, cond_false, true_and, and_true, false_and, and_false, xr_cI_s, xr_cV_s, xr_cI_e, xr_cV_e, xm_xs, xs_xs]
    rfl
theorem gc24 (hc : c = 3 ∨ c = 12) (P : xPl (xm S) np nq ch st du pl dy dp) (G : xGr (xm S) 0 c np nq pl g) (v : Int32) : xr_Call (d + 1) 24 [xP 0 c, xP 0 35, xI v] ([], w) S = some (.inl (some (xfo (fun k b => if g (8 + k / 2) = nI 0 ∧ g (16 + k) = v then b ||| (nI 1 <<< (nI k &&& 31)) else b) (2 * nq) (nI 0))), ([], w), S) := by
  obtain ⟨⟨p0, p1, p2, p3⟩, ⟨m0, m1, m2, m3⟩, ⟨b0, b1, b2, b3, b4⟩, hp, hd⟩ := P
  obtain ⟨g0, g1, g2, g3, g4, g5⟩ := G
  rw [xe24 d w S c hc]
  refine (xl_acc (fun k b => xr_Run d 24 5 [xP 0 c, xP 0 35, xI v, xI b, xI (nI k)] [] ([], w) S) (fun k b => if g (8 + k / 2) = nI 0 ∧ g (16 + k) = v then b ||| (nI 1 <<< (nI k &&& 31)) else b) (n := 2 * nq) (nI 0) (fun k b hk => ?_)).trans ?_
  · refine (xg24_5 _ _ _ _ hc _ _ _).trans ?_
    have z : ¬ nI 2 = 0 := by decide
    simp (disch := omega) only [z, xn_div, xi_t, xn_k, xn_lt, xn_eq, xn_mul, xn_add, xn_sub, xn_dec, xn_m1, xn_1m, if_pos, if_neg, if_true, if_false, cond_true, cond_false, true_and, and_true, false_and, and_false, xr_cI_s, xr_cV_s, xr_cI_e, xr_cV_e, xm_xs, xs_xs, p1, g2 (k / 2) (by omega), g3 k (by omega)]
    by_cases q : g (8 + k / 2) = nI 0 <;> by_cases q2 : g (16 + k) = v <;> simp only [q, q2, if_true, if_false, and_true, and_false, true_and, false_and]
  · refine (xg24_5 _ _ _ _ hc _ _ _).trans ?_
    simp (disch := omega) only [xi_t, xn_k, xn_lt, xn_eq, xn_mul, xn_add, xn_sub, xn_dec, xn_m1, xn_1m, if_pos, if_neg, if_true, if_false, cond_true, cond_false, true_and, and_true, false_and, and_false, xr_cI_s, xr_cV_s, xr_cI_e, xr_cV_e, xm_xs, xs_xs, p1]
theorem gc25 (hc : c = 3 ∨ c = 12) (P : xPl (xm S) np nq ch st du pl dy dp) (G : xGr (xm S) 0 c np nq pl g) (v : Int32) : xr_Call (d + 2) 25 [xP 0 c, xP 0 35, xI v] ([], w) S = some (.inl (some (xfo (fun k b => if ((xfo (fun k b => if g (8 + k / 2) = nI 0 ∧ g (16 + k) = v then b ||| (nI 1 <<< (nI k &&& 31)) else b) (2 * nq) (nI 0)) >>> (nI (2 * k) &&& 31)) &&& nI 3 = nI 3 then b ||| (nI 1 <<< (nI k &&& 31)) else b) nq (nI 0))), ([], w), S) := by
  have P' := P
  obtain ⟨⟨p0, p1, p2, p3⟩, ⟨m0, m1, m2, m3⟩, ⟨b0, b1, b2, b3, b4⟩, hp, hd⟩ := P
  rw [xe25 (d + 1) w S c hc, gc24 hc P' G, xr_cI_s]
  generalize xfo (fun k b => if g (8 + k / 2) = nI 0 ∧ g (16 + k) = v then b ||| (nI 1 <<< (nI k &&& 31)) else b) (2 * nq) (nI 0) = hv
  refine (xl_acc (fun k b => xr_Run (d + 1) 25 13 [xP 0 c, xP 0 35, xI v, xI hv, xI b, xI (nI k)] [] ([], w) S) (fun k b => if (hv >>> (nI (2 * k) &&& 31)) &&& nI 3 = nI 3 then b ||| (nI 1 <<< (nI k &&& 31)) else b) (n := nq) (nI 0) (fun k b hk => ?_)).trans ?_
  · refine (xg25_13 _ _ _ _ hc _ _ _ _).trans ?_
    simp (disch := omega) only [xi_t, xn_k, xn_lt, xn_eq, xn_mul, xn_add, xn_sub, xn_dec, xn_m1, xn_1m, if_pos, if_neg, if_true, if_false, cond_true, cond_false, true_and, and_true, false_and, and_false, xr_cI_s, xr_cV_s, xr_cI_e, xr_cV_e, xm_xs, xs_xs, p1]
    split <;> rfl
  · refine (xg25_13 _ _ _ _ hc _ _ _ _).trans ?_
    simp (disch := omega) only [xi_t, xn_k, xn_lt, xn_eq, xn_mul, xn_add, xn_sub, xn_dec, xn_m1, xn_1m, if_pos, if_neg, if_true, if_false, cond_true, cond_false, true_and, and_true, false_and, and_false, xr_cI_s, xr_cV_s, xr_cI_e, xr_cV_e, xm_xs, xs_xs, p1]
theorem gc15 (hc : c = 3 ∨ c = 12) (P : xPl (xm S) np nq ch st du pl dy dp) (G : xGr (xm S) 0 c np nq pl g) (W : xgW np nq pl g) {a b : Nat} (ha : a < 2 * nq) (hb : b < 2 * nq) : xr_Call (d + 2) 15 [xP 0 c, xP 0 35, xI (nI a), xI (nI b)] ([], w) S = some (.inl (some (oI (gchips ch pl g a b))), ([], w), S) := by
  have P' := P
  have G' := G
  obtain ⟨⟨p0, p1, p2, p3⟩, ⟨m0, m1, m2, m3⟩, ⟨b0, b1, b2, b3, b4⟩, hp, hd⟩ := P
  obtain ⟨g0, g1, g2, g3, g4, g5⟩ := G
  obtain ⟨_, _, ca, _, _, _, _, _, la⟩ := hp (a / 2) (by omega)
  obtain ⟨_, _, cb, _, _, _, _, _, lb⟩ := hp (b / 2) (by omega)
  rw [xe15 (d + 1) w S c hc]
  have z : ¬ nI 2 = 0 := by decide
  simp (disch := omega) only [z, xn_div, xi_t, xn_k, xn_lt, xn_eq, xn_mul, xn_add, xn_sub, xn_dec, xn_m1, xn_1m, if_pos, if_neg, if_true, if_false, cond_true, cond_false, true_and, and_true, false_and, and_false, xr_cI_s, xr_cV_s, xr_cI_e, xr_cV_e, xm_xs, xs_xs, ca, cb]
  unfold gchips
  by_cases q : pl (a / 2) = pl (b / 2)
  · rw [if_pos q, if_pos q]
    obtain ⟨v', e⟩ := xl_upV (T := fun k v => xr_Run (d + 1) 15 31 [xP 0 c, xP 0 35, xI (nI a), xI (nI b), xI (nI (pl (a / 2))), xI (nI (xsN (fun i => gN g (48 + 6 * b + i) - gN g (48 + 6 * a + i)) k)), xI (nI k), v] [] ([], w) S) (pl (a / 2)) (fun k v hk => by
      obtain ⟨wa, la, _⟩ := W.2 a k ha (by omega)
      obtain ⟨wb, lb, _⟩ := W.2 b k hb (by omega)
      have ea := (g5 a k ha (by omega)).trans wa
      have eb := (g5 b k hb (by omega)).trans wb
      refine ⟨xI (nI (gN g (48 + 6 * b + k)) - nI (gN g (48 + 6 * a + k))), ?_⟩
      refine (xg15_31 _ _ _ _ hc _ _ _ _ _ _).trans ?_
      simp (disch := omega) only [xn_pos, xi_t, xn_k, xn_lt, xn_mul, xn_add, if_pos, cond_true, ea, eb, xsN]) xU
    refine e.trans ?_
    refine (xg15_31 _ _ _ _ hc _ _ _ _ _ _).trans ?_
    have hs : xsN (fun i => gN g (48 + 6 * b + i) - gN g (48 + 6 * a + i)) (pl (a / 2)) ≤ pl (a / 2) * 9 := xsN_le _ (fun k hk => by
      have := (W.2 b k hb (by omega)).2.1
      omega)
    have hg := gap_le W ha hb (pl (a / 2)) la
    rw [if_neg (by rw [xn_lt (by omega) (by omega)]; omega), p2]
    by_cases q2 : ch < xsN (fun i => gN g (48 + 6 * b + i) - gN g (48 + 6 * a + i)) (pl (a / 2))
    · simp (disch := omega) only [xn_lt, if_pos, oI]
    · rw [if_neg (by rw [xn_lt (by omega) (by omega)]; exact q2), if_neg q2, gc13 hc G' W b1 ha hb (by omega) (by omega) (by omega), xr_cI_s, p2, xn_pos (by omega) (by omega)]
      rfl
  · rw [if_neg q, if_neg q]
    rfl
/-! the model -/
theorem gm206 (hc : c = 89 ∨ c = 90) {p : Nat} (hp : p < 8) : xr_Call (d + 1) 206 [xP 0 c, xI (nI p)] ([], w) S = some (.inl (some (bI (xm S 0 c (8 + p) = nI 0))), ([], w), S) := by
  rw [xe206 d w S c hc]
  unfold bI
  simp (disch := omega) only [xi_t, xn_k, xn_lt, xn_eq, xn_mul, xn_add, xn_sub, xn_dec, xn_m1, xn_1m, if_pos, if_neg, if_true, if_false, cond_true, cond_false, true_and, and_true, false_and, and_false, xr_cI_s, xr_cV_s, xr_cI_e, xr_cV_e, xm_xs, xs_xs]
  split <;> rfl
theorem gm203 (hc : c = 89 ∨ c = 90) (W : xgW np nq pl (xm S 0 c)) (hq : nq ≤ 8) {a b : Nat} (ha : a < 2 * nq) (hb : b < 2 * nq) : xr_Call (d + 2) 203 [xP 0 c, xI (nI a), xI (nI b)] ([], w) S = some (.inl (some (nI (gap (xm S 0 c) a b 6))), ([], w), S) := by
  rw [xe203 (d + 1) w S c hc]
  refine (xl_up (T := fun k => xr_Run (d + 1) 203 5 [xP 0 c, xI (nI a), xI (nI b), xI (nI (gap (xm S 0 c) a b k)), xI (nI k)] [] ([], w) S) (n := 6) (fun k hk => ?_)).trans ?_
  · refine (xg203_5 _ _ _ _ hc _ _ _ _).trans ?_
    obtain ⟨wa, la, _⟩ := W.2 a k ha (by omega)
    obtain ⟨wb, lb, _⟩ := W.2 b k hb (by omega)
    simp (disch := omega) only [xe201 d w _ c hc, xe202, xi_t, xn_k, xn_lt, xn_eq, xn_mul, xn_add, xn_sub, xn_dec, xn_m1, xn_1m, if_pos, if_neg, if_true, if_false, cond_true, cond_false, true_and, and_true, false_and, and_false, xr_cI_s, xr_cV_s, xr_cI_e, xr_cV_e, xm_xs, xs_xs]
    rw [wa, wb]
    simp (disch := omega) only [xn_lt]
    unfold gap
    rw [xsN]
    unfold gdist
    by_cases q : gN (xm S 0 c) (48 + 6 * b + k) < gN (xm S 0 c) (48 + 6 * a + k)
    · rw [if_pos q, xr_cI_s, xn_sub (by omega), xn_add]
      rw [show gN (xm S 0 c) (48 + 6 * b + k) - gN (xm S 0 c) (48 + 6 * a + k) = 0 by omega]
      simp only [Nat.add_zero]
    · rw [if_neg q, xr_cI_s, xn_sub (by omega), xn_add]
      rw [show gN (xm S 0 c) (48 + 6 * a + k) - gN (xm S 0 c) (48 + 6 * b + k) = 0 by omega, Nat.zero_add]
  · refine (xg203_5 _ _ _ _ hc _ _ _ _).trans ?_
    simp (disch := omega) only [xi_t, xn_k, xn_lt, xn_eq, xn_mul, xn_add, xn_sub, xn_dec, xn_m1, xn_1m, if_pos, if_neg, if_true, if_false, cond_true, cond_false, true_and, and_true, false_and, and_false, xr_cI_s, xr_cV_s, xr_cI_e, xr_cV_e, xm_xs, xs_xs]
theorem gm204 (hc : c = 89 ∨ c = 90) (P : xPl (xm S) np nq ch st du pl dy dp) (W : xgW np nq pl (xm S 0 c)) {p : Nat} (hpq : p < nq) : xr_Call (d + 3) 204 [xP 0 69, xP 0 c, xI (nI p)] ([], w) S = some (.inl (some (nI (gap (xm S 0 c) (2 * p) (2 * p + 1) (pl p)))), ([], w), S) := by
  obtain ⟨⟨p0, p1, p2, p3⟩, ⟨m0, m1, m2, m3⟩, ⟨b0, b1, b2, b3, b4⟩, hp, hd⟩ := P
  obtain ⟨c39, c40, c41, e2, e3, e4, l1, l2, l3⟩ := hp p hpq
  rw [xe204 (d + 2) w S c hc]
  simp (disch := omega) only [xn_mul, xn_add]
  rw [gm203 hc W b1 (by omega) (by omega), xr_cI_s, gap_six W (n := pl p) (by omega) (by omega) (by rw [show 2 * p / 2 = p by omega]) (by rw [show (2 * p + 1) / 2 = p by omega]) l3]
theorem gm205 (hc : c = 89 ∨ c = 90) (P : xPl (xm S) np nq ch st du pl dy dp) (W : xgW np nq pl (xm S 0 c)) {p : Nat} (hpq : p < nq) : xr_Call (d + 4) 205 [xP 0 69, xP 0 c, xI (nI p)] ([], w) S = some (.inl (some (bI (gap (xm S 0 c) (2 * p) (2 * p + 1) (pl p) ≤ ch))), ([], w), S) := by
  have P' := P
  obtain ⟨⟨p0, p1, p2, p3⟩, ⟨m0, m1, m2, m3⟩, ⟨b0, b1, b2, b3, b4⟩, hp, hd⟩ := P
  obtain ⟨c39, c40, c41, e2, e3, e4, l1, l2, l3⟩ := hp p hpq
  rw [xe205 (d + 3) w S c hc, gm204 hc P' W hpq, xr_cI_s]
  have h1 := gap_le W (a := 2 * p) (b := 2 * p + 1) (by omega) (by omega) (pl p) (by omega)
  simp (disch := omega) only [xi_t, xn_k, xn_lt, xn_eq, xn_mul, xn_add, xn_sub, xn_dec, xn_m1, xn_1m, if_pos, if_neg, if_true, if_false, cond_true, cond_false, true_and, and_true, false_and, and_false, xr_cI_s, xr_cV_s, xr_cI_e, xr_cV_e, xm_xs, xs_xs, m2]
  unfold bI
  by_cases q : gap (xm S 0 c) (2 * p) (2 * p + 1) (pl p) ≤ ch
  · rw [if_neg (by omega), if_pos q]
  · rw [if_pos (by omega), if_neg q]
theorem gm208 (hc : c = 89 ∨ c = 90) (P : xPl (xm S) np nq ch st du pl dy dp) {p : Nat} (hpq : p < nq) : xr_Call (d + 2) 208 [xP 0 69, xP 0 c, xI (nI p)] ([], w) S = some (.inl (some (bI (xm S 0 c (8 + p) = nI 0 ∧ dy p < xm S 0 c 144))), ([], w), S) := by
  obtain ⟨⟨p0, p1, p2, p3⟩, ⟨m0, m1, m2, m3⟩, ⟨b0, b1, b2, b3, b4⟩, hp, hd⟩ := P
  obtain ⟨c39, c40, c41, e2, e3, e4, l1, l2, l3⟩ := hp p hpq
  rw [xe208 (d + 1) w S c hc, gm206 hc (by omega), xr_cI_s]
  unfold bI
  by_cases q1 : xm S 0 c (8 + p) = nI 0 <;> by_cases q2 : dy p < xm S 0 c 144 <;> simp (disch := omega) only [xi_t, xn_k, xn_lt, xn_eq, xn_mul, xn_add, xn_sub, xn_dec, xn_m1, xn_1m, if_pos, if_neg, if_true, if_false, cond_true, cond_false, true_and, and_true, false_and, and_false, xr_cI_s, xr_cV_s, xr_cI_e, xr_cV_e, xm_xs, xs_xs, e3, q1, q2, if_true, if_false, and_self, and_true, and_false, false_and, true_and]
theorem gm215 (hc : c = 89 ∨ c = 90) (P : xPl (xm S) np nq ch st du pl dy dp) (v : Int32) : xr_Call (d + 1) 215 [xP 0 69, xP 0 c, xI v] ([], w) S = some (.inl (some (nI (xsN (fun k => if xm S 0 c (8 + k) = v then 1 else 0) nq))), ([], w), S) := by
  obtain ⟨⟨p0, p1, p2, p3⟩, ⟨m0, m1, m2, m3⟩, ⟨b0, b1, b2, b3, b4⟩, hp, hd⟩ := P
  rw [xe215 d w S c hc]
  refine (xl_up (T := fun k => xr_Run d 215 5 [xP 0 69, xP 0 c, xI v, xI (nI (xsN (fun k => if xm S 0 c (8 + k) = v then 1 else 0) k)), xI (nI k)] [] ([], w) S) (n := nq) (fun k hk => ?_)).trans ?_
  · refine (xg215_5 _ _ _ _ hc _ _ _).trans ?_
    simp (disch := omega) only [xi_t, xn_k, xn_lt, xn_eq, xn_mul, xn_add, xn_sub, xn_dec, xn_m1, xn_1m, if_pos, if_neg, if_true, if_false, cond_true, cond_false, true_and, and_true, false_and, and_false, xr_cI_s, xr_cV_s, xr_cI_e, xr_cV_e, xm_xs, xs_xs, m1, xsN]
    by_cases q : xm S 0 c (8 + k) = v <;> simp only [q, if_true, if_false, Nat.add_zero]
  · refine (xg215_5 _ _ _ _ hc _ _ _).trans ?_
    simp (disch := omega) only [xi_t, xn_k, xn_lt, xn_eq, xn_mul, xn_add, xn_sub, xn_dec, xn_m1, xn_1m, if_pos, if_neg, if_true, if_false, cond_true, cond_false, true_and, and_true, false_and, and_false, xr_cI_s, xr_cV_s, xr_cI_e, xr_cV_e, xm_xs, xs_xs, m1]
theorem gm229 (P : xPl (xm S) np nq ch st du pl dy dp) (a b : Int32) : xr_Call (d + 2) 229 [xP 0 69, xI a, xI b] ([], w) S = some (.inl (some (nI (gow nq du (xm S 0 89) a b))), ([], w), S) := by
  obtain ⟨⟨p0, p1, p2, p3⟩, ⟨m0, m1, m2, m3⟩, ⟨b0, b1, b2, b3, b4⟩, hp, hd⟩ := P
  rw [xe229 (d + 1) w S]
  unfold gow
  by_cases q : a = b
  · refine (xg229_5 _ _ _ _ _ _ _).trans ?_
    simp (disch := omega) only [xi_t, xn_k, xn_lt, xn_eq, xn_mul, xn_add, xn_sub, xn_dec, xn_m1, xn_1m, if_pos, if_neg, if_true, if_false, cond_true, cond_false, true_and, and_true, false_and, and_false, xr_cI_s, xr_cV_s, xr_cI_e, xr_cV_e, xm_xs, xs_xs, m1, q]
    split <;> rfl
  · rw [if_neg q]
    refine (xl_up (T := fun k => xr_Run (d + 1) 229 5 [xP 0 69, xI a, xI b, xI (nI (xsN (fun k => if xm S 0 89 (8 + k) = nI 0 ∧ xm S 0 89 (16 + (2 * k + 1)) = a ∧ xm S 0 89 (16 + 2 * k) = b then du k else 0) k)), xI (nI k)] [] ([], w) S) (n := nq) (fun k hk => ?_)).trans ?_
    · refine (xg229_5 _ _ _ _ _ _ _).trans ?_
      obtain ⟨c39, c40, c41, e2, e3, e4, l1, l2, l3⟩ := hp k hk
      rw [gm206 (c := 89) (by omega) (by omega)]
      simp only [← Nat.add_assoc]
      unfold bI
      by_cases q1 : xm S 0 89 (8 + k) = nI 0
      · simp (disch := omega) only [xi_t, xn_k, xn_lt, xn_eq, xn_mul, xn_add, xn_sub, xn_dec, xn_m1, xn_1m, if_pos, if_neg, if_true, if_false, cond_true, cond_false, true_and, and_true, false_and, and_false, xr_cI_s, xr_cV_s, xr_cI_e, xr_cV_e, xm_xs, xs_xs, q, m1, e2, xsN, q1, if_true, if_false]
        by_cases q2 : xm S 0 89 (16 + 2 * k + 1) = a <;> by_cases q3 : xm S 0 89 (16 + 2 * k) = b <;> simp (disch := omega) only [q2, q3, if_true, if_false, Nat.add_zero, and_true, and_false, true_and, false_and]
      · simp (disch := omega) only [xi_t, xn_k, xn_lt, xn_eq, xn_mul, xn_add, xn_sub, xn_dec, xn_m1, xn_1m, if_pos, if_neg, if_true, if_false, cond_true, cond_false, true_and, and_true, false_and, and_false, xr_cI_s, xr_cV_s, xr_cI_e, xr_cV_e, xm_xs, xs_xs, q, m1, e2, xsN, q1, if_true, if_false, Nat.add_zero]
    · refine (xg229_5 _ _ _ _ _ _ _).trans ?_
      simp (disch := omega) only [xi_t, xn_k, xn_lt, xn_eq, xn_mul, xn_add, xn_sub, xn_dec, xn_m1, xn_1m, if_pos, if_neg, if_true, if_false, cond_true, cond_false, true_and, and_true, false_and, and_false, xr_cI_s, xr_cV_s, xr_cI_e, xr_cV_e, xm_xs, xs_xs, m1]
theorem gm231 (P : xPl (xm S) np nq ch st du pl dy dp) (a : Int32) : xr_Call (d + 3) 231 [xP 0 69, xI a] ([], w) S = some (.inl (some (gnet np nq du (xm S 0 89) a)), ([], w), S) := by
  have P' := P
  obtain ⟨⟨p0, p1, p2, p3⟩, ⟨m0, m1, m2, m3⟩, ⟨b0, b1, b2, b3, b4⟩, hp, hd⟩ := P
  rw [xe231 (d + 2) w S]
  refine (xl_acc (fun k b => xr_Run (d + 2) 231 4 [xP 0 69, xI a, xI b, xI (nI k)] [] ([], w) S) (fun o b => b + (nI (gow nq du (xm S 0 89) (nI o) a) - nI (gow nq du (xm S 0 89) a (nI o)))) (n := np) (nI 0) (fun k b hk => ?_)).trans ?_
  · refine (xg231_4 _ _ _ _ _ _).trans ?_
    rw [gm229 P', xr_cI_s, gm229 P', xr_cI_s]
    simp (disch := omega) only [xi_t, xn_k, cond_true, m0, xn_lt, if_pos, xn_add]
  · refine (xg231_4 _ _ _ _ _ _).trans ?_
    simp (disch := omega) only [xi_t, xn_k, xn_lt, xn_eq, xn_mul, xn_add, xn_sub, xn_dec, xn_m1, xn_1m, if_pos, if_neg, if_true, if_false, cond_true, cond_false, true_and, and_true, false_and, and_false, xr_cI_s, xr_cV_s, xr_cI_e, xr_cV_e, xm_xs, xs_xs, m0]
    rfl
theorem gm236 (P : xPl (xm S) np nq ch st du pl dy dp) {l : Nat} (hl : l < 1000) : xr_Call (d + 3) 236 [xP 0 69, xI (nI l)] ([], w) S = some (.inl (some (nI (gclaim nq du dy (xm S 0 89) l))), ([], w), S) := by
  have P' := P
  obtain ⟨⟨p0, p1, p2, p3⟩, ⟨m0, m1, m2, m3⟩, ⟨b0, b1, b2, b3, b4⟩, hp, hd⟩ := P
  rw [xe236 (d + 2) w S]
  refine (xl_up (T := fun k => xr_Run (d + 2) 236 4 [xP 0 69, xI (nI l), xI (nI (gclaim k du dy (xm S 0 89) l)), xI (nI k)] [] ([], w) S) (n := nq) (fun k hk => ?_)).trans ?_
  · refine (xg236_4 _ _ _ _ _ _).trans ?_
    obtain ⟨c39, c40, c41, e2, e3, e4, l1, l2, l3⟩ := hp k hk
    rw [gm208 (c := 89) (by omega) P' hk]
    unfold bI gclaim
    by_cases q : xm S 0 89 (8 + k) = nI 0 ∧ dy k < xm S 0 89 144
    · simp (disch := omega) only [xe153, xi_t, xn_k, xn_lt, xn_eq, xn_mul, xn_add, xn_sub, xn_dec, xn_m1, xn_1m, if_pos, if_neg, if_true, if_false, cond_true, cond_false, true_and, and_true, false_and, and_false, xr_cI_s, xr_cV_s, xr_cI_e, xr_cV_e, xm_xs, xs_xs, m1, e2, xsN, q, if_true, if_false]
      by_cases q3 : l < du k
      · rw [if_pos q3, xr_cI_s, Nat.min_eq_left (by omega), xn_add]
      · rw [if_neg q3, xr_cI_s, Nat.min_eq_right (by omega), xn_add]
    · simp (disch := omega) only [xi_t, xn_k, xn_lt, xn_eq, xn_mul, xn_add, xn_sub, xn_dec, xn_m1, xn_1m, if_pos, if_neg, if_true, if_false, cond_true, cond_false, true_and, and_true, false_and, and_false, xr_cI_s, xr_cV_s, xr_cI_e, xr_cV_e, xm_xs, xs_xs, m1, e2, xsN, q, if_true, if_false, Nat.add_zero]
  · refine (xg236_4 _ _ _ _ _ _).trans ?_
    simp (disch := omega) only [xi_t, xn_k, xn_lt, xn_eq, xn_mul, xn_add, xn_sub, xn_dec, xn_m1, xn_1m, if_pos, if_neg, if_true, if_false, cond_true, cond_false, true_and, and_true, false_and, and_false, xr_cI_s, xr_cV_s, xr_cI_e, xr_cV_e, xm_xs, xs_xs, m1]
theorem gm253 (P : xPl (xm S) np nq ch st du pl dy dp) (W : xgW np nq pl (xm S 0 89)) {a b : Nat} (ha : a < 2 * nq) (hb : b < 2 * nq) : xr_Call (d + 3) 253 [xP 0 69, xI (nI a), xI (nI b)] ([], w) S = some (.inl (some (oI (gchips ch pl (xm S 0 89) a b))), ([], w), S) := by
  have P' := P
  obtain ⟨⟨p0, p1, p2, p3⟩, ⟨m0, m1, m2, m3⟩, ⟨b0, b1, b2, b3, b4⟩, hp, hd⟩ := P
  obtain ⟨_, _, _, _, _, ca, _, _, la⟩ := hp (a / 2) (by omega)
  obtain ⟨_, _, _, _, _, cb, _, _, lb⟩ := hp (b / 2) (by omega)
  have z : ¬ nI 2 = 0 := by decide
  rw [xe253 (d + 2) w S]
  simp (disch := omega) only [xe247, z, xn_div, xi_t, xn_k, xn_lt, xn_eq, xn_mul, xn_add, xn_sub, xn_dec, xn_m1, xn_1m, if_pos, if_neg, if_true, if_false, cond_true, cond_false, true_and, and_true, false_and, and_false, xr_cI_s, xr_cV_s, xr_cI_e, xr_cV_e, xm_xs, xs_xs, ca, cb]
  unfold gchips
  by_cases q : pl (a / 2) = pl (b / 2)
  · rw [if_pos q, if_pos q, gm203 (c := 89) (by omega) W b1 ha hb, xr_cI_s]
    have h6 := gap_le W ha hb 6 (Nat.le_refl _)
    simp (disch := omega) only [xe154, xi_t, xn_k, cond_true, m2]
    have e6 := gap_six W ha hb rfl q.symm la
    rw [e6] at h6 ⊢
    have e2 : (if nI (gap (xm S 0 89) a b (pl (a / 2))) - nI ch < nI 0 then some (Sum.inl (some (nI 0)), (([] : List (Nat × Nat × Nat)), w), S) else some (Sum.inl (some (nI (gap (xm S 0 89) a b (pl (a / 2))) - nI ch)), ([], w), S)) = (some (Sum.inl (some (nI (gap (xm S 0 89) a b (pl (a / 2)) - ch))), ([], w), S) : xr_R) := by
      rw [← xn_pos2 (a := gap (xm S 0 89) a b (pl (a / 2))) (b := ch) (by omega) (by omega)]
      split <;> rfl
    rw [e2, xr_cI_s]
    refine (xl_up (T := fun k => xr_Run (d + 2) 253 42 [xP 0 69, xI (nI a), xI (nI b), xI (nI (xsN (fun i => gN (xm S 0 89) (48 + 6 * a + i) - gN (xm S 0 89) (48 + 6 * b + i)) k)), xI (nI (gap (xm S 0 89) a b (pl (a / 2)) - ch)), xI (nI k)] [] ([], w) S) (n := 6) (fun k hk => ?_)).trans ?_
    · refine (xg253_42 _ _ _ _ _ _ _ _).trans ?_
      obtain ⟨wa, la, _⟩ := W.2 a k ha (by omega)
      obtain ⟨wb, lb, _⟩ := W.2 b k hb (by omega)
      simp (disch := omega) only [xe201 (d + 1) w _ 89 (Or.inl rfl), xi_t, xn_k, xn_lt, xn_eq, xn_mul, xn_add, xn_sub, xn_dec, xn_m1, xn_1m, if_pos, if_neg, if_true, if_false, cond_true, cond_false, true_and, and_true, false_and, and_false, xr_cI_s, xr_cV_s, xr_cI_e, xr_cV_e, xm_xs, xs_xs]
      rw [wa, wb]
      rw [xe154]
      have e3 : (if nI (gN (xm S 0 89) (48 + 6 * a + k)) - nI (gN (xm S 0 89) (48 + 6 * b + k)) < nI 0 then some (Sum.inl (some (nI 0)), (([] : List (Nat × Nat × Nat)), w), S) else some (Sum.inl (some (nI (gN (xm S 0 89) (48 + 6 * a + k)) - nI (gN (xm S 0 89) (48 + 6 * b + k)))), ([], w), S)) = (some (Sum.inl (some (nI (gN (xm S 0 89) (48 + 6 * a + k) - gN (xm S 0 89) (48 + 6 * b + k)))), ([], w), S) : xr_R) := by
        rw [← xn_pos2 (a := gN (xm S 0 89) (48 + 6 * a + k)) (b := gN (xm S 0 89) (48 + 6 * b + k)) (by omega) (by omega)]
        split <;> rfl
      rw [e3, xr_cI_s, xn_add, xsN]
    · refine (xg253_42 _ _ _ _ _ _ _ _).trans ?_
      have es := gap_split (g := xm S 0 89) (a := a) (b := b) (pl (a / 2))
      have es6 := gap_split (g := xm S 0 89) (a := a) (b := b) 6
      have ea : xsN (fun i => gN (xm S 0 89) (48 + 6 * a + i) - gN (xm S 0 89) (48 + 6 * b + i)) (pl (a / 2)) ≤ xsN (fun i => gN (xm S 0 89) (48 + 6 * a + i) - gN (xm S 0 89) (48 + 6 * b + i)) 6 := xsN_mono _ _ la
      have eb : xsN (fun i => gN (xm S 0 89) (48 + 6 * b + i) - gN (xm S 0 89) (48 + 6 * a + i)) (pl (a / 2)) ≤ xsN (fun i => gN (xm S 0 89) (48 + 6 * b + i) - gN (xm S 0 89) (48 + 6 * a + i)) 6 := xsN_mono _ _ la
      rw [if_neg (by rw [xn_lt (by omega) (by omega)]; omega)]
      simp (disch := omega) only [xn_lt]
      by_cases q2 : ch < xsN (fun i => gN (xm S 0 89) (48 + 6 * b + i) - gN (xm S 0 89) (48 + 6 * a + i)) (pl (a / 2))
      · rw [if_pos q2, if_pos (by omega)]; rfl
      · rw [if_neg q2, if_neg (by omega)]; rfl
  · rw [if_neg q, if_neg q]
    rfl
end
