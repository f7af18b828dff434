/-! THE PLAN: what class and model know of a hill's text -/
def xPl (M : xr_M) (np nq ch st : Nat) (du pl : Nat → Nat) (dy : Nat → Int32) (dp : Nat → Nat → Nat) : Prop :=
  (M 0 35 0 = nI np ∧ M 0 35 1 = nI nq ∧ M 0 35 2 = nI ch ∧ M 0 35 3 = nI st) ∧ (M 0 73 0 = nI np ∧ M 0 73 1 = nI nq ∧ M 0 73 2 = nI ch ∧ M 0 73 3 = nI st) ∧ (np ≤ 8 ∧ nq ≤ 8 ∧ ch ≤ 20 ∧ 1 ≤ st ∧ st ≤ 9) ∧
  (∀ p, p < nq → M 0 39 p = nI (du p) ∧ M 0 40 p = dy p ∧ M 0 41 p = nI (pl p) ∧ M p 1079 2 = nI (du p) ∧ M p 1079 3 = dy p ∧ M p 1079 4 = nI (pl p) ∧ du p ≤ 40 ∧ 3 ≤ pl p ∧ pl p ≤ 6) ∧
  (∀ p i, p < nq → i < 6 → M 0 42 (p * 6 + i) = nI (dp p i) ∧ dp p i ≤ 9 ∧ (pl p ≤ i → dp p i = 0) ∧ (i < pl p → M p 1081 i = nI (dp p i)))
theorem xPl_fr {M M' : xr_M} {np nq ch st : Nat} {du pl : Nat → Nat} {dy : Nat → Int32} {dp : Nat → Nat → Nat} (h : ∀ b e, (e = 35 ∨ e = 39 ∨ e = 40 ∨ e = 41 ∨ e = 42 ∨ e = 73 ∨ e = 1079 ∨ e = 1081) → M' b e = M b e) (P : xPl M np nq ch st du pl dy dp) : xPl M' np nq ch st du pl dy dp := by
  unfold xPl at P ⊢
  rw [h 0 35 (by omega), h 0 73 (by omega), h 0 39 (by omega), h 0 40 (by omega), h 0 41 (by omega), h 0 42 (by omega)]
  obtain ⟨P1, P2, P3, P4, P5⟩ := P
  refine ⟨P1, P2, P3, fun p hp => ?_, fun p i hp hi => ?_⟩
  · rw [h p 1079 (by omega)]; exact P4 p hp
  · rw [h p 1081 (by omega)]; exact P5 p i hp hi
/-! THE GROUND: the model's row g; the class's cells at (b, c) hold it (but the heap) -/
def gN (g : Nat → Int32) (j : Nat) : Nat := xk (g j)
def xGr (M : xr_M) (b c np nq : Nat) (pl : Nat → Nat) (g : Nat → Int32) : Prop := M b c 0 = g 144 ∧ (∀ k, k < np → M b (c + 1) k = g k) ∧ (∀ k, k < nq → M b (c + 2) k = g (8 + k)) ∧ (∀ k, k < 2 * nq → M b (c + 3) k = g (16 + k)) ∧ (∀ k, k < 2 * nq → M b (c + 4) k = g (32 + k)) ∧ ∀ k i, k < 2 * nq → i < pl (k / 2) → M b (c + 5) (k * 6 + i) = g (48 + 6 * k + i)
/-- holders are people; depths are small, and 0 behind the places -/
def xgW (np nq : Nat) (pl : Nat → Nat) (g : Nat → Int32) : Prop := (∀ k, k < 2 * nq → g (16 + k) = nI (gN g (16 + k)) ∧ gN g (16 + k) < np) ∧ ∀ k i, k < 2 * nq → i < 6 → g (48 + 6 * k + i) = nI (gN g (48 + 6 * k + i)) ∧ gN g (48 + 6 * k + i) ≤ 9 ∧ (pl (k / 2) ≤ i → gN g (48 + 6 * k + i) = 0)
def gdist (g : Nat → Int32) (a b i : Nat) : Nat := (gN g (48 + 6 * a + i) - gN g (48 + 6 * b + i)) + (gN g (48 + 6 * b + i) - gN g (48 + 6 * a + i))
def gap (g : Nat → Int32) (a b n : Nat) : Nat := xsN (gdist g a b) n
def bI (p : Prop) [Decidable p] : Int32 := if p then nI 1 else nI 0
theorem xn_abs {a b : Nat} (ha : a < 100000000) (hb : b < 100000000) : (if 0 ≤ nI a - nI b then nI a - nI b else 0 - (nI a - nI b)) = nI ((a - b) + (b - a)) := by
  rcases Nat.le_total b a with q | q
  · rw [xn_sub q, if_pos (nI_pos' (by omega)), show a - b + (b - a) = a - b by omega]
  · rcases Nat.eq_or_lt_of_le q with q2 | q2
    · subst q2; rw [xn_sub (Nat.le_refl _), if_pos (nI_pos' (by omega)), show a - a + (a - a) = a - a by omega]
    · have e : nI a - nI b = - nI (b - a) := by rw [← xn_sub q, Int32.neg_sub]
      have n0 : ¬ 0 ≤ nI a - nI b := by
        rw [Int32.not_le]
        have := xn_slt (s := 0) (a := b) (b := a) (by omega) (by omega) (by omega)
        rw [e]
        have h2 : (- nI (b - a)) = Int32.ofInt (-((b - a : Nat) : Int)) := by rw [Int32.ofInt_neg, Int32.ofInt_eq_ofNat]; rfl
        rw [h2, Int32.lt_iff_toInt_lt, Int32.toInt_ofInt_of_le (by omega) (by omega)]
        have : (0 : Int32).toInt = 0 := by decide
        omega
      rw [if_neg n0, e, show a - b + (b - a) = b - a by omega, Int32.zero_sub, Int32.neg_neg]
theorem xn_pos {a b : Nat} (ha : a < 100000000) (hb : b < 100000000) : (if nI 0 < nI a - nI b then nI a - nI b else nI 0) = nI (a - b) := by
  have e := xn_slt (s := 0) (a := a) (b := b) (by omega) ha hb
  by_cases q : b < a
  · rw [if_pos (by rw [e]; omega), xn_sub (by omega)]
  · rw [if_neg (by rw [e]; omega), show a - b = 0 by omega]
theorem xn_pos2 {a b : Nat} (ha : a < 100000000) (hb : b < 100000000) : (if nI a - nI b < nI 0 then nI 0 else nI a - nI b) = nI (a - b) := by
  by_cases q : b ≤ a
  · rw [xn_sub q, if_neg (by rw [xn_lt (by omega) (by omega)]; omega)]
  · have e : nI a - nI b = - nI (b - a) := by rw [← xn_sub (by omega), Int32.neg_sub]
    have h2 : (- nI (b - a)) = Int32.ofInt (-((b - a : Nat) : Int)) := by rw [Int32.ofInt_neg, Int32.ofInt_eq_ofNat]; rfl
    rw [if_pos (by rw [e, h2, Int32.lt_iff_toInt_lt, Int32.toInt_ofInt_of_le (by omega) (by omega), nI_toInt (by omega)]; omega), show a - b = 0 by omega]
section
variable {d : Nat} {w : List Nat} {S : xr_S} {c : Nat} {np nq ch st : Nat} {du pl : Nat → Nat} {dy : Nat → Int32} {dp : Nat → Nat → Nat} {g : Nat → Int32}
theorem gc13 (hc : c = 3 ∨ c = 12) (G : xGr (xm S) 0 c np nq pl g) (W : xgW np nq pl g) (hq : nq ≤ 8) {a b n : Nat} (ha : a < 2 * nq) (hb : b < 2 * nq) (hn : n ≤ 6) (na : n ≤ pl (a / 2)) (nb : n ≤ pl (b / 2)) : xr_Call (d + 1) 13 [xP 0 c, xI (nI n), xI (nI a), xI (nI b)] ([], w) S = some (.inl (some (nI (gap g a b n))), ([], w), S) := by
  obtain ⟨g0, g1, g2, g3, g4, g5⟩ := G
  rw [xe13 d w S c hc]
  refine (xl_up (T := fun k => xr_Run d 13 6 [xP 0 c, xI (nI n), xI (nI a), xI (nI b), xI (nI (gap g a b k)), xI (nI k)] [] ([], w) S) (n := n) (fun k hk => ?_)).trans ?_
  · refine (xg13_6 _ _ _ _ hc _ _ _ _ _).trans ?_
    obtain ⟨wa, la, _⟩ := W.2 a k ha (by omega)
    obtain ⟨wb, lb, _⟩ := W.2 b k hb (by omega)
    have ea := (g5 a k ha (by omega)).trans wa
    have eb := (g5 b k hb (by omega)).trans wb
    simp (disch := omega) only [xn_abs, xi_t, xn_k, xn_lt, xn_mul, xn_add, if_pos, cond_true, ea, eb, gap, xsN, gdist]
  · refine (xg13_6 _ _ _ _ hc _ _ _ _ _).trans ?_
    simp (disch := omega) only [xi_t, xn_k, xn_lt, xn_eq, xn_mul, xn_add, xn_sub, xn_dec, xn_m1, xn_1m, if_pos, if_neg, if_true, if_false, cond_true, cond_false, true_and, and_true, false_and, and_false, xr_cI_s, xr_cV_s, xr_cI_e, xr_cV_e, xm_xs, xs_xs]
theorem gap_le (W : xgW np nq pl g) {a b : Nat} (ha : a < 2 * nq) (hb : b < 2 * nq) : ∀ n, n ≤ 6 → gap g a b n ≤ 9 * n
  | 0, _ => Nat.le_refl _
  | n + 1, hn => by
    have h1 := gap_le W ha hb n (by omega)
    obtain ⟨_, la, _⟩ := W.2 a n ha (by omega)
    obtain ⟨_, lb, _⟩ := W.2 b n hb (by omega)
    unfold gap at h1 ⊢
    rw [xsN]
    unfold gdist at h1 ⊢
    omega
theorem gc14 (hc : c = 3 ∨ c = 12) (P : xPl (xm S) np nq ch st du pl dy dp) (G : xGr (xm S) 0 c np nq pl g) (W : xgW np nq pl g) {p : Nat} (hpq : p < nq) : xr_Call (d + 2) 14 [xP 0 c, xP 0 35, xI (nI p)] ([], w) S = some (.inl (some (bI (gap g (2 * p) (2 * p + 1) (pl p) ≤ ch))), ([], w), S) := by
  obtain ⟨⟨p0, p1, p2, p3⟩, ⟨m0, m1, m2, m3⟩, ⟨b0, b1, b2, b3, b4⟩, hp, hd⟩ := P
  obtain ⟨c39, c40, c41, e2, e3, e4, l1, l2, l3⟩ := hp p hpq
  rw [xe14 (d + 1) w S c hc]
  have h1 := gap_le W (a := 2 * p) (b := 2 * p + 1) (by omega) (by omega) (pl p) (by omega)
  have ea : (2 * p) / 2 = p := by omega
  have eb : (2 * p + 1) / 2 = p := by omega
  simp (disch := first | omega | (rw [ea]; omega) | (rw [eb]; omega)) only [xi_t, xn_k, xn_lt, xn_eq, xn_mul, xn_add, xn_sub, xn_dec, xn_m1, xn_1m, if_pos, if_neg, if_true, if_false, cond_true, cond_false, true_and, and_true, false_and, and_false, xr_cI_s, xr_cV_s, xr_cI_e, xr_cV_e, xm_xs, xs_xs, c41, gc13 hc G W b1 (a := 2 * p) (b := 2 * p + 1) (n := pl p), p2]
  unfold bI
  by_cases q : gap g (2 * p) (2 * p + 1) (pl p) ≤ ch
  · rw [if_neg (by omega), if_pos q]
  · rw [if_pos (by omega), if_neg q]
theorem gc16 (hc : c = 3 ∨ c = 12) (P : xPl (xm S) np nq ch st du pl dy dp) (G : xGr (xm S) 0 c np nq pl g) {p : Nat} (hpq : p < nq) : xr_Call (d + 1) 16 [xP 0 c, xP 0 35, xI (nI p)] ([], w) S = some (.inl (some (bI (g (8 + p) = nI 0 ∧ dy p < g 144))), ([], w), S) := by
  obtain ⟨⟨p0, p1, p2, p3⟩, ⟨m0, m1, m2, m3⟩, ⟨b0, b1, b2, b3, b4⟩, hp, hd⟩ := P
  obtain ⟨g0, g1, g2, g3, g4, g5⟩ := G
  obtain ⟨c39, c40, c41, e2, e3, e4, l1, l2, l3⟩ := hp p hpq
  rw [xe16 d w S c hc]
  unfold bI
  simp (disch := omega) only [xi_t, xn_k, xn_lt, xn_eq, xn_mul, xn_add, xn_sub, xn_dec, xn_m1, xn_1m, if_pos, if_neg, if_true, if_false, cond_true, cond_false, true_and, and_true, false_and, and_false, xr_cI_s, xr_cV_s, xr_cI_e, xr_cV_e, xm_xs, xs_xs, c40, g0, g2 p hpq]
  by_cases q1 : g (8 + p) = nI 0 <;> by_cases q2 : dy p < g 144 <;> simp only [q1, q2, if_true, if_false, and_self, and_true, and_false, false_and, true_and]
theorem gc17 (hc : c = 3 ∨ c = 12) (P : xPl (xm S) np nq ch st du pl dy dp) (G : xGr (xm S) 0 c np nq pl g) (v : Int32) : xr_Call (d + 1) 17 [xP 0 c, xP 0 35, xI v] ([], w) S = some (.inl (some (nI (xsN (fun k => if g (8 + k) = v then 1 else 0) nq))), ([], w), S) := by
  obtain ⟨⟨p0, p1, p2, p3⟩, ⟨m0, m1, m2, m3⟩, ⟨b0, b1, b2, b3, b4⟩, hp, hd⟩ := P
  obtain ⟨g0, g1, g2, g3, g4, g5⟩ := G
  rw [xe17 d w S c hc]
  refine (xl_up (T := fun k => xr_Run d 17 5 [xP 0 c, xP 0 35, xI v, xI (nI (xsN (fun k => if g (8 + k) = v then 1 else 0) k)), xI (nI k)] [] ([], w) S) (n := nq) (fun k hk => ?_)).trans ?_
  · refine (xg17_5 _ _ _ _ hc _ _ _).trans ?_
    simp (disch := omega) only [xi_t, xn_k, xn_lt, xn_eq, xn_mul, xn_add, xn_sub, xn_dec, xn_m1, xn_1m, if_pos, if_neg, if_true, if_false, cond_true, cond_false, true_and, and_true, false_and, and_false, xr_cI_s, xr_cV_s, xr_cI_e, xr_cV_e, xm_xs, xs_xs, p1, g2 k hk, xsN]
    by_cases q : g (8 + k) = v <;> simp only [q, if_true, if_false, Nat.add_zero]
  · refine (xg17_5 _ _ _ _ hc _ _ _).trans ?_
    simp (disch := omega) only [xi_t, xn_k, xn_lt, xn_eq, xn_mul, xn_add, xn_sub, xn_dec, xn_m1, xn_1m, if_pos, if_neg, if_true, if_false, cond_true, cond_false, true_and, and_true, false_and, and_false, xr_cI_s, xr_cV_s, xr_cI_e, xr_cV_e, xm_xs, xs_xs, p1]
theorem gc18 (hc : c = 3 ∨ c = 12) (P : xPl (xm S) np nq ch st du pl dy dp) (G : xGr (xm S) 0 c np nq pl g) : xr_Call (d + 2) 18 [xP 0 c, xP 0 35] ([], w) S = some (.inl (some (nI (xsN (fun k => if g (8 + k) = nI 0 ∧ dy k < g 144 then 1 else 0) nq))), ([], w), S) := by
  have P' := P
  obtain ⟨⟨p0, p1, p2, p3⟩, ⟨m0, m1, m2, m3⟩, ⟨b0, b1, b2, b3, b4⟩, hp, hd⟩ := P
  rw [xe18 (d + 1) w S c hc]
  refine (xl_up (T := fun k => xr_Run (d + 1) 18 4 [xP 0 c, xP 0 35, xI (nI (xsN (fun k => if g (8 + k) = nI 0 ∧ dy k < g 144 then 1 else 0) k)), xI (nI k)] [] ([], w) S) (n := nq) (fun k hk => ?_)).trans ?_
  · refine (xg18_4 _ _ _ _ hc _ _).trans ?_
    unfold bI at *
    rw [gc16 hc P' G hk]
    unfold bI
    by_cases q : g (8 + k) = nI 0 ∧ dy k < g 144 <;> simp (disch := omega) only [xi_t, xn_k, xn_lt, xn_eq, xn_mul, xn_add, xn_sub, xn_dec, xn_m1, xn_1m, if_pos, if_neg, if_true, if_false, cond_true, cond_false, true_and, and_true, false_and, and_false, xr_cI_s, xr_cV_s, xr_cI_e, xr_cV_e, xm_xs, xs_xs, p1, xsN, q, if_true, if_false, Nat.add_zero]
  · refine (xg18_4 _ _ _ _ hc _ _).trans ?_
    simp (disch := omega) only [xi_t, xn_k, xn_lt, xn_eq, xn_mul, xn_add, xn_sub, xn_dec, xn_m1, xn_1m, if_pos, if_neg, if_true, if_false, cond_true, cond_false, true_and, and_true, false_and, and_false, xr_cI_s, xr_cV_s, xr_cI_e, xr_cV_e, xm_xs, xs_xs, p1]
theorem gc19 (hc : c = 3 ∨ c = 12) (P : xPl (xm S) np nq ch st du pl dy dp) (G : xGr (xm S) 0 c np nq pl g) (W : xgW np nq pl g) : xr_Call (d + 3) 19 [xP 0 c, xP 0 35] ([], w) S = some (.inl (some (nI (xsN (fun k => if g (8 + k) = nI 0 ∧ gap g (2 * k) (2 * k + 1) (pl k) ≤ ch then 1 else 0) nq))), ([], w), S) := by
  have P' := P
  have G' := G
  obtain ⟨⟨p0, p1, p2, p3⟩, ⟨m0, m1, m2, m3⟩, ⟨b0, b1, b2, b3, b4⟩, hp, hd⟩ := P
  obtain ⟨g0, g1, g2, g3, g4, g5⟩ := G
  rw [xe19 (d + 2) w S c hc]
  refine (xl_up (T := fun k => xr_Run (d + 2) 19 4 [xP 0 c, xP 0 35, xI (nI (xsN (fun k => if g (8 + k) = nI 0 ∧ gap g (2 * k) (2 * k + 1) (pl k) ≤ ch then 1 else 0) k)), xI (nI k)] [] ([], w) S) (n := nq) (fun k hk => ?_)).trans ?_
  · refine (xg19_4 _ _ _ _ hc _ _).trans ?_
    rw [gc14 hc P' G' W hk]
    unfold bI
    by_cases q : g (8 + k) = nI 0
    · by_cases q2 : gap g (2 * k) (2 * k + 1) (pl k) ≤ ch <;> simp (disch := omega) only [xi_t, xn_k, xn_lt, xn_eq, xn_mul, xn_add, xn_sub, xn_dec, xn_m1, xn_1m, if_pos, if_neg, if_true, if_false, cond_true, cond_false, true_and, and_true, false_and, and_false, xr_cI_s, xr_cV_s, xr_cI_e, xr_cV_e, xm_xs, xs_xs, p1, g2 k hk, xsN, q, q2, if_true, if_false, Nat.add_zero, and_true, and_false]
    · simp (disch := omega) only [xi_t, xn_k, xn_lt, xn_eq, xn_mul, xn_add, xn_sub, xn_dec, xn_m1, xn_1m, if_pos, if_neg, if_true, if_false, cond_true, cond_false, true_and, and_true, false_and, and_false, xr_cI_s, xr_cV_s, xr_cI_e, xr_cV_e, xm_xs, xs_xs, p1, g2 k hk, xsN, q, if_true, if_false, Nat.add_zero, false_and]
  · refine (xg19_4 _ _ _ _ hc _ _).trans ?_
    simp (disch := omega) only [xi_t, xn_k, xn_lt, xn_eq, xn_mul, xn_add, xn_sub, xn_dec, xn_m1, xn_1m, if_pos, if_neg, if_true, if_false, cond_true, cond_false, true_and, and_true, false_and, and_false, xr_cI_s, xr_cV_s, xr_cI_e, xr_cV_e, xm_xs, xs_xs, p1]
def gow (nq : Nat) (du : Nat → Nat) (g : Nat → Int32) (a b : Int32) : Nat := if a = b then 0 else xsN (fun k => if g (8 + k) = nI 0 ∧ g (16 + (2 * k + 1)) = a ∧ g (16 + 2 * k) = b then du k else 0) nq
theorem gc20 (hc : c = 3 ∨ c = 12) (P : xPl (xm S) np nq ch st du pl dy dp) (G : xGr (xm S) 0 c np nq pl g) (a b : Int32) : xr_Call (d + 1) 20 [xP 0 c, xP 0 35, xI a, xI b] ([], w) S = some (.inl (some (nI (gow nq du g a b))), ([], w), S) := by
  obtain ⟨⟨p0, p1, p2, p3⟩, ⟨m0, m1, m2, m3⟩, ⟨b0, b1, b2, b3, b4⟩, hp, hd⟩ := P
  obtain ⟨g0, g1, g2, g3, g4, g5⟩ := G
  rw [xe20 d w S c hc]
  unfold gow
  by_cases q : a = b
  · rw [if_pos q, if_pos q]
  · rw [if_neg q, if_neg q]
    refine (xl_up (T := fun k => xr_Run d 20 13 [xP 0 c, xP 0 35, xI a, xI b, xI (nI (xsN (fun k => if g (8 + k) = nI 0 ∧ g (16 + (2 * k + 1)) = a ∧ g (16 + 2 * k) = b then du k else 0) k)), xI (nI k)] [] ([], w) S) (n := nq) (fun k hk => ?_)).trans ?_
    · refine (xg20_13 _ _ _ _ hc _ _ _ _).trans ?_
      obtain ⟨c39, c40, c41, e2, e3, e4, l1, l2, l3⟩ := hp k hk
      simp (disch := omega) only [xi_t, xn_k, xn_lt, xn_eq, xn_mul, xn_add, xn_sub, xn_dec, xn_m1, xn_1m, if_pos, if_neg, if_true, if_false, cond_true, cond_false, true_and, and_true, false_and, and_false, xr_cI_s, xr_cV_s, xr_cI_e, xr_cV_e, xm_xs, xs_xs, p1, g2 k hk, g3 (2 * k) (by omega), g3 (2 * k + 1) (by omega), c39, xsN]
      by_cases q : g (8 + k) = nI 0 <;> by_cases q2 : g (16 + (2 * k + 1)) = a <;> by_cases q3 : g (16 + 2 * k) = b <;> simp only [q, q2, q3, if_true, if_false, Nat.add_zero, and_true, and_false, true_and, false_and]
    · refine (xg20_13 _ _ _ _ hc _ _ _ _).trans ?_
      simp (disch := omega) only [xi_t, xn_k, xn_lt, xn_eq, xn_mul, xn_add, xn_sub, xn_dec, xn_m1, xn_1m, if_pos, if_neg, if_true, if_false, cond_true, cond_false, true_and, and_true, false_and, and_false, xr_cI_s, xr_cV_s, xr_cI_e, xr_cV_e, xm_xs, xs_xs, p1]
def gnet (np nq : Nat) (du : Nat → Nat) (g : Nat → Int32) (a : Int32) : Int32 := xfo (fun o b => b + (nI (gow nq du g (nI o) a) - nI (gow nq du g a (nI o)))) np (nI 0)
theorem gc21 (hc : c = 3 ∨ c = 12) (P : xPl (xm S) np nq ch st du pl dy dp) (G : xGr (xm S) 0 c np nq pl g) (a : Int32) : xr_Call (d + 2) 21 [xP 0 c, xP 0 35, xI a] ([], w) S = some (.inl (some (gnet np nq du g a)), ([], w), S) := by
  have P' := P
  obtain ⟨⟨p0, p1, p2, p3⟩, ⟨m0, m1, m2, m3⟩, ⟨b0, b1, b2, b3, b4⟩, hp, hd⟩ := P
  rw [xe21 (d + 1) w S c hc]
  refine (xl_acc (fun k b => xr_Run (d + 1) 21 5 [xP 0 c, xP 0 35, xI a, xI b, xI (nI k)] [] ([], w) S) (fun o b => b + (nI (gow nq du g (nI o) a) - nI (gow nq du g a (nI o)))) (n := np) (nI 0) (fun k b hk => ?_)).trans ?_
  · refine (xg21_5 _ _ _ _ hc _ _ _).trans ?_
    rw [if_pos (by rw [p0, xn_lt (by omega) (by omega)]; omega), gc20 hc P' G, xr_cI_s, gc20 hc P' G, xr_cI_s, xn_add]
  · refine (xg21_5 _ _ _ _ hc _ _ _).trans ?_
    simp (disch := omega) only [xi_t, xn_k, xn_lt, xn_eq, xn_mul, xn_add, xn_sub, xn_dec, xn_m1, xn_1m, if_pos, if_neg, if_true, if_false, cond_true, cond_false, true_and, and_true, false_and, and_false, xr_cI_s, xr_cV_s, xr_cI_e, xr_cV_e, xm_xs, xs_xs, p0]
    rfl
def gclaim (nq : Nat) (du : Nat → Nat) (dy : Nat → Int32) (g : Nat → Int32) (l : Nat) : Nat := xsN (fun k => if g (8 + k) = nI 0 ∧ dy k < g 144 then min l (du k) else 0) nq
theorem gc23 (hc : c = 3 ∨ c = 12) (P : xPl (xm S) np nq ch st du pl dy dp) (G : xGr (xm S) 0 c np nq pl g) {l : Nat} (hl : l < 1000) : xr_Call (d + 2) 23 [xP 0 c, xP 0 35, xI (nI l)] ([], w) S = some (.inl (some (nI (gclaim nq du dy g l))), ([], w), S) := by
  have P' := P
  obtain ⟨⟨p0, p1, p2, p3⟩, ⟨m0, m1, m2, m3⟩, ⟨b0, b1, b2, b3, b4⟩, hp, hd⟩ := P
  rw [xe23 (d + 1) w S c hc]
  refine (xl_up (T := fun k => xr_Run (d + 1) 23 5 [xP 0 c, xP 0 35, xI (nI l), xI (nI (gclaim k du dy g l)), xI (nI k)] [] ([], w) S) (n := nq) (fun k hk => ?_)).trans ?_
  · refine (xg23_5 _ _ _ _ hc _ _ _).trans ?_
    obtain ⟨c39, c40, c41, e2, e3, e4, l1, l2, l3⟩ := hp k hk
    rw [gc16 hc P' G hk]
    unfold bI gclaim
    by_cases q : g (8 + k) = nI 0 ∧ dy k < g 144 <;> simp (disch := omega) only [xi_t, xn_k, xn_lt, xn_eq, xn_mul, xn_add, xn_sub, xn_dec, xn_m1, xn_1m, if_pos, if_neg, if_true, if_false, cond_true, cond_false, true_and, and_true, false_and, and_false, xr_cI_s, xr_cV_s, xr_cI_e, xr_cV_e, xm_xs, xs_xs, p1, c39, xsN, q, if_true, if_false, Nat.add_zero, xn_minA]
  · refine (xg23_5 _ _ _ _ hc _ _ _).trans ?_
    simp (disch := omega) only [xi_t, xn_k, xn_lt, xn_eq, xn_mul, xn_add, xn_sub, xn_dec, xn_m1, xn_1m, if_pos, if_neg, if_true, if_false, cond_true, cond_false, true_and, and_true, false_and, and_false, xr_cI_s, xr_cV_s, xr_cI_e, xr_cV_e, xm_xs, xs_xs, p1]
end
