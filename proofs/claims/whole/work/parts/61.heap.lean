/-! THE HEAP: heights h, shards s; in the class's two rows, in the model's row -/
def xhC (hr sr : Nat → Int32) (h : Nat → Nat) (s : Nat → Nat → Int32) : Prop := (∀ x, x < 8 → hr x = nI (h x)) ∧ ∀ x k, x < 8 → k < h x → sr (x * 81 + k) = s x k
def xhM (r : Nat → Int32) (h : Nat → Nat) (s : Nat → Nat → Int32) : Prop := (∀ x, x < 8 → r (145 + x) = nI (h x)) ∧ ∀ x k, x < 8 → k < h x → r (153 + 80 * x + k) = s x k
def xhB (n : Nat) (h : Nat → Nat) : Prop := ∀ x, x < 8 → h x ≤ n
def hlow (h : Nat → Nat) (x : Nat) : Nat := if x = 0 then 1 else if x = 7 then 6 else if h (x + 1) < h (x - 1) then x + 1 else x - 1
def hup (h : Nat → Nat) (x n : Nat) : Nat → Nat := fun y => if y = x then n else h y
def hus (s : Nat → Nat → Int32) (x k : Nat) (v : Int32) : Nat → Nat → Int32 := fun y j => if y = x ∧ j = k then v else s y j
def oI (o : Option Nat) : Int32 := match o with
  | some x => nI x
  | none => -1
def hfst (st : Nat) (h : Nat → Nat) : Option Nat := xfst (fun x => decide (st + h (hlow h x) < h x)) 8 0
def hfh (h : Nat → Nat) (x : Nat) : Nat → Nat := hup (hup h x (h x - 1)) (hlow h x) (h (hlow h x) + 1)
def hfs (h : Nat → Nat) (s : Nat → Nat → Int32) (x : Nat) : Nat → Nat → Int32 := hus s (hlow h x) (h (hlow h x)) (s x (h x - 1))
def hset (st : Nat) : Nat → (Nat → Nat) → (Nat → Nat → Int32) → Nat × (Nat → Nat) × (Nat → Nat → Int32)
  | 0, h, s => (0, h, s)
  | n + 1, h, s => match hfst st h with
    | none => (0, h, s)
    | some x => ((hset st n (hfh h x) (hfs h s x)).1 + 1, (hset st n (hfh h x) (hfs h s x)).2)
def hsq (h : Nat → Nat) : Nat := xsN (fun x => h x * h x) 8
theorem hlow_lt {h : Nat → Nat} {x : Nat} (hx : x < 8) : hlow h x < 8 := by
  unfold hlow
  split
  · omega
  · split
    · omega
    · split <;> omega
theorem hlow_ne {h : Nat → Nat} {x : Nat} : hlow h x ≠ x := by
  unfold hlow
  split
  · omega
  · split
    · omega
    · split <;> omega
theorem hfst_some {st : Nat} {h : Nat → Nat} {x : Nat} (q : hfst st h = some x) : x < 8 ∧ st + h (hlow h x) < h x := by
  obtain ⟨_, h2, h3, _⟩ := xfst_some _ _ _ q
  exact ⟨by omega, of_decide_eq_true h3⟩
theorem hfst_none {st : Nat} {h : Nat → Nat} (q : hfst st h = none) : ∀ x, x < 8 → ¬ st + h (hlow h x) < h x := fun x hx => of_decide_eq_false (xfst_none _ _ q x (by omega) (by omega))
theorem hfst_congr {st : Nat} {h h' : Nat → Nat} (q : ∀ x, x < 8 → h x = h' x) : hfst st h = hfst st h' := by
  refine xfst_congr 8 0 (fun i _ hi => ?_)
  have e : hlow h i = hlow h' i := by
    unfold hlow
    split
    · rfl
    · split
      · rfl
      · rw [q (i + 1) (by omega), q (i - 1) (by omega)]
  rw [e, q i (by omega), q _ (hlow_lt (by omega))]
theorem hsq_fall {h : Nat → Nat} {x st : Nat} (hx : x < 8) (hs : st + h (hlow h x) < h x) (h1 : 1 ≤ st) : hsq (hfh h x) + 1 ≤ hsq h := by
  have e1 : hsq (hup h x (h x - 1)) + h x * h x = hsq h + (h x - 1) * (h x - 1) := by
    have := xsN_up (g := fun y => h y * h y) (x := x) (a := (h x - 1) * (h x - 1)) 8 hx
    rw [show (fun y => if y = x then (h x - 1) * (h x - 1) else h y * h y) = (fun y => hup h x (h x - 1) y * hup h x (h x - 1) y) from by funext y; unfold hup; by_cases q : y = x <;> simp [q]] at this
    exact this
  have e2 : hsq (hfh h x) + h (hlow h x) * h (hlow h x) = hsq (hup h x (h x - 1)) + (h (hlow h x) + 1) * (h (hlow h x) + 1) := by
    have := xsN_up (g := fun y => hup h x (h x - 1) y * hup h x (h x - 1) y) (x := hlow h x) (a := (h (hlow h x) + 1) * (h (hlow h x) + 1)) 8 (hlow_lt hx)
    rw [show (fun y => if y = hlow h x then (h (hlow h x) + 1) * (h (hlow h x) + 1) else hup h x (h x - 1) y * hup h x (h x - 1) y) = (fun y => hfh h x y * hfh h x y) from by funext y; unfold hfh; rw [show ∀ z, hup (hup h x (h x - 1)) (hlow h x) z y = if y = hlow h x then z else hup h x (h x - 1) y from fun _ => rfl]; by_cases q : y = hlow h x <;> simp [q]] at this
    rw [show hup h x (h x - 1) (hlow h x) = h (hlow h x) from if_neg hlow_ne] at this
    exact this
  obtain ⟨a, ha⟩ : ∃ a, h x = a + 1 := ⟨h x - 1, by omega⟩
  rw [ha] at e1 hs
  simp only [Nat.add_sub_cancel, Nat.add_mul, Nat.mul_add, Nat.one_mul, Nat.mul_one] at e1 e2
  generalize h (hlow h x) = B at *
  generalize B * B = BB at *
  generalize a * a = AA at *
  rw [show h x - 1 = a by omega] at *
  omega
section
variable {d : Nat} {w : List Nat} {S : xr_S} {c : Nat} {h : Nat → Nat} {s : Nat → Nat → Int32}
theorem hc32 (hc : c = 9 ∨ c = 18 ∨ c = 31) (H : xhC (xm S 0 (c + 1)) (xm S 0 (c + 2)) h s) (B : xhB 81 h) {x : Nat} (hx : x < 8) : xr_Call (d + 1) 32 [xP 0 c, xI (nI x)] ([], w) S = some (.inl (some (nI (hlow h x))), ([], w), S) := by
  have H1 := H.1
  rw [xe32 d w S c hc]
  unfold hlow
  by_cases q0 : x = 0
  · simp (disch := omega) only [xi_t, xn_k, xn_lt, xn_eq, xn_mul, xn_add, xn_sub, xn_dec, xn_m1, xn_1m, if_pos, if_neg, if_true, if_false, cond_true, cond_false, true_and, and_true, false_and, and_false, xr_cI_s, xr_cV_s, xr_cI_e, xr_cV_e, xm_xs, xs_xs]
  · by_cases q7 : x = 7
    · simp (disch := omega) only [xi_t, xn_k, xn_lt, xn_eq, xn_mul, xn_add, xn_sub, xn_dec, xn_m1, xn_1m, if_pos, if_neg, if_true, if_false, cond_true, cond_false, true_and, and_true, false_and, and_false, xr_cI_s, xr_cV_s, xr_cI_e, xr_cV_e, xm_xs, xs_xs]
      rw [q7]
    · have b1 := B (x + 1) (by omega)
      have b2 := B (x - 1) (by omega)
      simp (disch := omega) only [xi_t, xn_k, xn_lt, xn_eq, xn_mul, xn_add, xn_sub, xn_dec, xn_m1, xn_1m, if_pos, if_neg, if_true, if_false, cond_true, cond_false, true_and, and_true, false_and, and_false, xr_cI_s, xr_cV_s, xr_cI_e, xr_cV_e, xm_xs, xs_xs, H1]
      split <;> rfl
theorem hc34 (hc : c = 9 ∨ c = 18 ∨ c = 31) (H : xhC (xm S 0 (c + 1)) (xm S 0 (c + 2)) h s) (B : xhB 81 h) {st : Nat} (hst : st < 100) : xr_Call (d + 2) 34 [xP 0 c, xI (nI st)] ([], w) S = some (.inl (some (oI (hfst st h))), ([], w), S) := by
  have H1 := H.1
  rw [xe34 (d + 1) w S c hc]
  have L := xl_fst (T := fun k => xr_Run (d + 1) 34 2 [xP 0 c, xI (nI st), xI (nI k)] [] ([], w) S) (R := fun k => some (.inl (some (nI k)), ([], w), S)) (c := fun x => decide (st + h (hlow h x) < h x)) (n := 8) (fun k hk => by
    refine (xg34_2 _ _ _ _ hc _ _).trans ?_
    have hl := hlow_lt (h := h) hk
    have b1 := B k hk
    have b2 := B _ hl
    simp (disch := omega) only [xi_t, xn_k, xn_lt, xn_eq, xn_mul, xn_add, xn_sub, xn_dec, xn_m1, xn_1m, if_pos, if_neg, if_true, if_false, cond_true, cond_false, true_and, and_true, false_and, and_false, xr_cI_s, xr_cV_s, xr_cI_e, xr_cV_e, xm_xs, xs_xs, hc32 hc H B hk, H1, xn_slt, Bool.cond_decide])
  refine L.trans ?_
  rw [show xfst (fun x => decide (st + h (hlow h x) < h x)) 8 0 = hfst st h from rfl]
  cases hfst st h with
  | some k => rfl
  | none =>
    refine (xg34_2 _ _ _ _ hc _ _).trans ?_
    simp (disch := omega) only [xi_t, xn_k, xn_lt, xn_eq, xn_mul, xn_add, xn_sub, xn_dec, xn_m1, xn_1m, if_pos, if_neg, if_true, if_false, cond_true, cond_false, true_and, and_true, false_and, and_false, xr_cI_s, xr_cV_s, xr_cI_e, xr_cV_e, xm_xs, xs_xs]
    rfl
theorem hc29 (hc : c = 9 ∨ c = 18 ∨ c = 31) (H : xhC (xm S 0 (c + 1)) (xm S 0 (c + 2)) h s) (B : xhB 81 h) {x : Nat} (hx : x < 8) (hh : h x < 81) (v : Int32) : ∃ M, xr_Call (d + 1) 29 [xP 0 c, xI (nI x), xI v] ([], w) S = some (.inl none, ([], w), xs S M) ∧ xhC (M 0 (c + 1)) (M 0 (c + 2)) (hup h x (h x + 1)) (hus s x (h x) v) ∧ ∀ b e, ¬ (b = 0 ∧ (e = c + 1 ∨ e = c + 2)) → M b e = xm S b e := by
  have H1 := H.1
  refine ⟨xw (xw (xm S) 0 (c + 2) (x * 81 + h x) v) 0 (c + 1) x (nI (h x + 1)), ?_, ⟨?_, ?_⟩, ?_⟩
  · rw [xe29 d w S c hc]
    simp (disch := omega) only [xi_t, xn_k, xn_lt, xn_eq, xn_mul, xn_add, xn_sub, xn_dec, xn_m1, xn_1m, if_pos, if_neg, if_true, if_false, cond_true, cond_false, true_and, and_true, false_and, and_false, xr_cI_s, xr_cV_s, xr_cI_e, xr_cV_e, xm_xs, xs_xs, xw_y, xw_n, H1]
  · intro y hy
    unfold hup
    by_cases q : y = x
    · simp (disch := omega) only [xw_y, xw_n, xu_y, xu_n, if_pos, if_neg, if_true, if_false, true_and, and_true, false_and, and_false]
    · simp (disch := omega) only [xw_y, xw_n, xu_y, xu_n, if_pos, if_neg, if_true, if_false, true_and, and_true, false_and, and_false, H1]
  · intro y k hy hk
    unfold hup at hk
    unfold hus
    by_cases q : y = x
    · subst q
      rw [if_pos rfl] at hk
      by_cases q2 : k = h y
      · simp (disch := omega) only [xw_y, xw_n, xu_y, xu_n, if_pos, if_neg, if_true, if_false, true_and, and_true, false_and, and_false]
      · simp (disch := omega) only [xw_y, xw_n, xu_y, xu_n, if_pos, if_neg, if_true, if_false, true_and, and_true, false_and, and_false, H.2 y k hy (by omega)]
    · rw [if_neg q] at hk
      have := H.2 y k hy hk
      have b1 := B y hy
      simp (disch := omega) only [xw_y, xw_n, xu_y, xu_n, if_pos, if_neg, if_true, if_false, true_and, and_true, false_and, and_false, this]
  · intro b e q
    rw [xw_r (by omega), xw_r (by omega)]
theorem hc30 (hc : c = 9 ∨ c = 18 ∨ c = 31) (H : xhC (xm S 0 (c + 1)) (xm S 0 (c + 2)) h s) (B : xhB 81 h) {x : Nat} (hx : x < 8) (hh : 0 < h x) : ∃ M, xr_Call (d + 1) 30 [xP 0 c, xI (nI x)] ([], w) S = some (.inl (some (s x (h x - 1))), ([], w), xs S M) ∧ xhC (M 0 (c + 1)) (M 0 (c + 2)) (hup h x (h x - 1)) s ∧ ∀ b e, ¬ (b = 0 ∧ (e = c + 1 ∨ e = c + 2)) → M b e = xm S b e := by
  have H1 := H.1
  have b1 := B x hx
  refine ⟨xw (xm S) 0 (c + 1) x (nI (h x - 1)), ?_, ⟨?_, ?_⟩, ?_⟩
  · rw [xe30 d w S c hc]
    simp (disch := omega) only [xi_t, xn_k, xn_lt, xn_eq, xn_mul, xn_add, xn_sub, xn_dec, xn_m1, xn_1m, if_pos, if_neg, if_true, if_false, cond_true, cond_false, true_and, and_true, false_and, and_false, xr_cI_s, xr_cV_s, xr_cI_e, xr_cV_e, xm_xs, xs_xs, xw_y, xw_n, H1, H.2 x (h x - 1) hx (by omega)]
  · intro y hy
    unfold hup
    by_cases q : y = x
    · simp (disch := omega) only [xw_y, xw_n, xu_y, xu_n, if_pos, if_neg, if_true, if_false, true_and, and_true, false_and, and_false]
    · simp (disch := omega) only [xw_y, xw_n, xu_y, xu_n, if_pos, if_neg, if_true, if_false, true_and, and_true, false_and, and_false, H1]
  · intro y k hy hk
    unfold hup at hk
    rw [xw_n (by omega)]
    refine H.2 y k hy ?_
    by_cases q : y = x
    · subst q; rw [if_pos rfl] at hk; omega
    · rw [if_neg q] at hk; exact hk
  · intro b e q
    rw [xw_r (by omega)]
theorem hfh_B {n x : Nat} (B : xhB n h) (hx : x < 8) (q : h (hlow h x) < n) : xhB n (hfh h x) := by
  intro y hy
  unfold hfh hup
  have := B y hy
  have := B x hx
  split
  · omega
  · split <;> omega
theorem hc33 (hc : c = 9 ∨ c = 18 ∨ c = 31) (H : xhC (xm S 0 (c + 1)) (xm S 0 (c + 2)) h s) (B : xhB 81 h) {x : Nat} (hx : x < 8) (hh : 0 < h x) (hl : h (hlow h x) < 81) : ∃ M, xr_Call (d + 2) 33 [xP 0 c, xI (nI x)] ([], w) S = some (.inl none, ([], w), xs S M) ∧ xhC (M 0 (c + 1)) (M 0 (c + 2)) (hfh h x) (hfs h s x) ∧ ∀ b e, ¬ (b = 0 ∧ (e = c + 1 ∨ e = c + 2)) → M b e = xm S b e := by
  obtain ⟨M1, e1, H1, F1⟩ := hc30 (d := d) (w := w) hc H B hx hh
  have B1 : xhB 81 (hup h x (h x - 1)) := by
    intro y hy
    unfold hup
    have := B y hy
    have := B x hx
    split <;> omega
  have el : hup h x (h x - 1) (hlow h x) = h (hlow h x) := if_neg hlow_ne
  obtain ⟨M2, e2, H2, F2⟩ := hc29 (d := d) (w := w) (S := xs S M1) hc H1 B1 (hlow_lt (h := h) hx) (by rw [el]; exact hl) (s x (h x - 1))
  refine ⟨M2, ?_, ?_, ?_⟩
  · rw [xe33 (d + 1) w S c hc]
    simp (disch := omega) only [xi_t, xn_k, xn_lt, xn_eq, xn_mul, xn_add, xn_sub, xn_dec, xn_m1, xn_1m, if_pos, if_neg, if_true, if_false, cond_true, cond_false, true_and, and_true, false_and, and_false, xr_cI_s, xr_cV_s, xr_cI_e, xr_cV_e, xm_xs, xs_xs, hc32 hc H B hx, e1, e2]
  · rw [el] at H2
    exact H2
  · intro b e q
    rw [F2 b e q]
    exact F1 b e q
theorem hc35L (hc : c = 9 ∨ c = 18 ∨ c = 31) {st : Nat} (hst : st < 100) (h1 : 1 ≤ st) : ∀ (n : Nat) (S : xr_S) (h : Nat → Nat) (s : Nat → Nat → Int32) (j : Nat) (v : xr_V), xhC (xm S 0 (c + 1)) (xm S 0 (c + 2)) h s → xhB 81 h → hsq h ≤ n → j + n < 900000 → ∃ M, xr_Run (d + 2) 35 2 [xP 0 c, xI (nI st), xI (nI j), v] [] ([], w) S = some (.inl (some (nI (j + (hset st n h s).1))), ([], w), xs S M) ∧ xhC (M 0 (c + 1)) (M 0 (c + 2)) (hset st n h s).2.1 (hset st n h s).2.2 ∧ ∀ b e, ¬ (b = 0 ∧ (e = c + 1 ∨ e = c + 2)) → M b e = xm S b e := by
  intro n
  induction n with
  | zero =>
    intro S h s j v H B hq hj
    refine ⟨xm S, ?_, H, fun _ _ _ => rfl⟩
    refine (xg35_2 _ _ _ _ hc _ _ _).trans ?_
    have e : hfst st h = none := by
      cases hf : hfst st h with
      | none => rfl
      | some x =>
        obtain ⟨hx, hs⟩ := hfst_some hf
        have := hsq_fall hx hs h1
        omega
    simp (disch := omega) only [xi_t, xn_k, xn_lt, xn_eq, xn_mul, xn_add, xn_sub, xn_dec, xn_m1, xn_1m, if_pos, if_neg, if_true, if_false, cond_true, cond_false, true_and, and_true, false_and, and_false, xr_cI_s, xr_cV_s, xr_cI_e, xr_cV_e, xm_xs, xs_xs, hc34 hc H B hst, e, hset, oI, xs_xm, Nat.add_zero]
  | succ n ih =>
    intro S h s j v H B hq hj
    cases hf : hfst st h with
    | none =>
      refine ⟨xm S, ?_, by rw [hset, hf]; exact H, fun _ _ _ => rfl⟩
      refine (xg35_2 _ _ _ _ hc _ _ _).trans ?_
      simp (disch := omega) only [xi_t, xn_k, xn_lt, xn_eq, xn_mul, xn_add, xn_sub, xn_dec, xn_m1, xn_1m, if_pos, if_neg, if_true, if_false, cond_true, cond_false, true_and, and_true, false_and, and_false, xr_cI_s, xr_cV_s, xr_cI_e, xr_cV_e, xm_xs, xs_xs, hc34 hc H B hst, hf, hset, oI, xs_xm, Nat.add_zero]
    | some x =>
      obtain ⟨hx, hs⟩ := hfst_some hf
      have b1 := B x hx
      obtain ⟨M1, e1, H1, F1⟩ := hc33 (d := d) (w := w) hc H B hx (by omega) (by omega)
      have hq1 := hsq_fall hx hs h1
      obtain ⟨M2, e2, H2, F2⟩ := ih (xs S M1) (hfh h x) (hfs h s x) (j + 1) (xI (nI x)) H1 (hfh_B B hx (by omega)) (by omega) (by omega)
      refine ⟨M2, ?_, ?_, ?_⟩
      · refine (xg35_2 _ _ _ _ hc _ _ _).trans ?_
        simp (disch := omega) only [xi_t, xn_k, xn_lt, xn_eq, xn_mul, xn_add, xn_sub, xn_dec, xn_m1, xn_1m, if_pos, if_neg, if_true, if_false, cond_true, cond_false, true_and, and_true, false_and, and_false, xr_cI_s, xr_cV_s, xr_cI_e, xr_cV_e, xm_xs, xs_xs, hc34 hc H B hst, hf, oI, e1, e2, hset]
        rw [show j + 1 + (hset st n (hfh h x) (hfs h s x)).fst = j + ((hset st n (hfh h x) (hfs h s x)).fst + 1) by omega]
      · rw [hset, hf]; exact H2
      · intro b e q
        rw [F2 b e q]
        exact F1 b e q
theorem hc35 (hc : c = 9 ∨ c = 18 ∨ c = 31) {st : Nat} (hst : st < 100) (h1 : 1 ≤ st) (H : xhC (xm S 0 (c + 1)) (xm S 0 (c + 2)) h s) (B : xhB 81 h) {n : Nat} (hq : hsq h ≤ n) (hn : n < 800000) : ∃ M, xr_Call (d + 3) 35 [xP 0 c, xI (nI st)] ([], w) S = some (.inl (some (nI (hset st n h s).1)), ([], w), xs S M) ∧ xhC (M 0 (c + 1)) (M 0 (c + 2)) (hset st n h s).2.1 (hset st n h s).2.2 ∧ ∀ b e, ¬ (b = 0 ∧ (e = c + 1 ∨ e = c + 2)) → M b e = xm S b e := by
  obtain ⟨M, e, r⟩ := hc35L (d := d) (w := w) hc hst h1 n S h s 0 xU H B hq (by omega)
  refine ⟨M, ?_, r⟩
  rw [xe35 (d + 2) w S c hc, e, Nat.zero_add]
end
