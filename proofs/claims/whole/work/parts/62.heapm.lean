/-! THE HEAP, the model's row -/
section
variable {d : Nat} {w : List Nat} {S : xr_S} {c : Nat} {h : Nat → Nat} {s : Nat → Nat → Int32}
theorem hm192 (hc : c = 89 ∨ c = 90) (H : xhM (xm S 0 c) h s) {x : Nat} (hx : x < 8) : xr_Call (d + 1) 192 [xP 0 c, xI (nI x)] ([], w) S = some (.inl (some (nI (h x))), ([], w), S) := by
  have H1 := H.1
  rw [xe192 d w S c hc]
  simp (disch := omega) only [xi_t, xn_k, xn_lt, xn_eq, xn_mul, xn_add, xn_sub, xn_dec, xn_m1, xn_1m, if_pos, if_neg, if_true, if_false, cond_true, cond_false, true_and, and_true, false_and, and_false, xr_cI_s, xr_cV_s, xr_cI_e, xr_cV_e, xm_xs, xs_xs, H1]
theorem hm196 (hc : c = 89 ∨ c = 90) (H : xhM (xm S 0 c) h s) (B : xhB 81 h) {x : Nat} (hx : x < 8) : xr_Call (d + 2) 196 [xP 0 c, xI (nI x)] ([], w) S = some (.inl (some (nI (hlow h x))), ([], w), S) := by
  rw [xe196 (d + 1) w S c hc]
  unfold hlow
  by_cases q0 : x = 0
  · simp (disch := omega) only [xi_t, xn_k, xn_lt, xn_eq, xn_mul, xn_add, xn_sub, xn_dec, xn_m1, xn_1m, if_pos, if_neg, if_true, if_false, cond_true, cond_false, true_and, and_true, false_and, and_false, xr_cI_s, xr_cV_s, xr_cI_e, xr_cV_e, xm_xs, xs_xs]
  · by_cases q7 : x = 7
    · simp (disch := omega) only [xi_t, xn_k, xn_lt, xn_eq, xn_mul, xn_add, xn_sub, xn_dec, xn_m1, xn_1m, if_pos, if_neg, if_true, if_false, cond_true, cond_false, true_and, and_true, false_and, and_false, xr_cI_s, xr_cV_s, xr_cI_e, xr_cV_e, xm_xs, xs_xs]
      rw [q7]
    · have b1 := B (x + 1) (by omega)
      have b2 := B (x - 1) (by omega)
      simp (disch := omega) only [xi_t, xn_k, xn_lt, xn_eq, xn_mul, xn_add, xn_sub, xn_dec, xn_m1, xn_1m, if_pos, if_neg, if_true, if_false, cond_true, cond_false, true_and, and_true, false_and, and_false, xr_cI_s, xr_cV_s, xr_cI_e, xr_cV_e, xm_xs, xs_xs, hm192 hc H]
      split <;> rfl
theorem hm197 (hc : c = 89 ∨ c = 90) (H : xhM (xm S 0 c) h s) (B : xhB 81 h) {st : Nat} (hst : st < 100) (hs : xm S 0 73 3 = nI st) : xr_Call (d + 3) 197 [xP 0 69, xP 0 c] ([], w) S = some (.inl (some (oI (hfst st h))), ([], w), S) := by
  rw [xe197 (d + 2) w S c hc]
  have L := xl_fst (T := fun k => xr_Run (d + 2) 197 2 [xP 0 69, xP 0 c, xI (nI k)] [] ([], w) S) (R := fun k => some (.inl (some (nI k)), ([], w), S)) (c := fun x => decide (st + h (hlow h x) < h x)) (n := 8) (fun k hk => by
    refine (xg197_2 _ _ _ _ hc _).trans ?_
    have hl := hlow_lt (h := h) hk
    have b1 := B k hk
    have b2 := B _ hl
    simp (disch := omega) only [xi_t, xn_k, xn_lt, xn_eq, xn_mul, xn_add, xn_sub, xn_dec, xn_m1, xn_1m, if_pos, if_neg, if_true, if_false, cond_true, cond_false, true_and, and_true, false_and, and_false, xr_cI_s, xr_cV_s, xr_cI_e, xr_cV_e, xm_xs, xs_xs, hm196 hc H B hk, hm192 hc H, hs, xn_slt, Bool.cond_decide])
  refine L.trans ?_
  rw [show xfst (fun x => decide (st + h (hlow h x) < h x)) 8 0 = hfst st h from rfl]
  cases hfst st h with
  | some k => rfl
  | none =>
    refine (xg197_2 _ _ _ _ hc _).trans ?_
    simp (disch := omega) only [xi_t, xn_k, xn_lt, xn_eq, xn_mul, xn_add, xn_sub, xn_dec, xn_m1, xn_1m, if_pos, if_neg, if_true, if_false, cond_true, cond_false, true_and, and_true, false_and, and_false, xr_cI_s, xr_cV_s, xr_cI_e, xr_cV_e, xm_xs, xs_xs]
    rfl
theorem hm194 (hc : c = 89 ∨ c = 90) (H : xhM (xm S 0 c) h s) (B : xhB 80 h) {x : Nat} (hx : x < 8) (hh : h x < 80) (v : Int32) : ∃ M, xr_Call (d + 2) 194 [xP 0 c, xI (nI x), xI v] ([], w) S = some (.inl none, ([], w), xs S M) ∧ xhM (M 0 c) (hup h x (h x + 1)) (hus s x (h x) v) ∧ (∀ b e, ¬ (b = 0 ∧ e = c) → M b e = xm S b e) ∧ ∀ k, k < 145 → M 0 c k = xm S 0 c k := by
  have H1 := H.1
  refine ⟨xw (xw (xm S) 0 c (153 + 80 * x + h x) v) 0 c (145 + x) (nI (h x + 1)), ?_, ⟨?_, ?_⟩, ?_, ?_⟩
  · rw [xe194 (d + 1) w S c hc]
    simp (disch := omega) only [xi_t, xn_k, xn_lt, xn_eq, xn_mul, xn_add, xn_sub, xn_dec, xn_m1, xn_1m, if_pos, if_neg, if_true, if_false, cond_true, cond_false, true_and, and_true, false_and, and_false, xr_cI_s, xr_cV_s, xr_cI_e, xr_cV_e, xm_xs, xs_xs, xw_y, xw_n, hm192 hc H, H1]
  · intro y hy
    unfold hup
    by_cases q : y = x
    · simp (disch := omega) only [xw_y, xw_n, xu_y, xu_n, if_pos, if_neg, if_true, if_false, true_and, and_true, false_and, and_false]
    · simp (disch := omega) only [xw_y, xw_n, xu_y, xu_n, if_pos, if_neg, if_true, if_false, true_and, and_true, false_and, and_false, H1]
  · intro y k hy hk
    unfold hup at hk
    unfold hus
    by_cases q : y = x
    · subst q
      rw [if_pos rfl] at hk
      by_cases q2 : k = h y
      · simp (disch := omega) only [xw_y, xw_n, xu_y, xu_n, if_pos, if_neg, if_true, if_false, true_and, and_true, false_and, and_false]
      · simp (disch := omega) only [xw_y, xw_n, xu_y, xu_n, if_pos, if_neg, if_true, if_false, true_and, and_true, false_and, and_false, H.2 y k hy (by omega)]
    · rw [if_neg q] at hk
      have := H.2 y k hy hk
      have b1 := B y hy
      simp (disch := omega) only [xw_y, xw_n, xu_y, xu_n, if_pos, if_neg, if_true, if_false, true_and, and_true, false_and, and_false, this]
  · intro b e q
    rw [xw_r (by omega), xw_r (by omega)]
  · intro k hk
    rw [xw_n (by omega), xw_n (by omega)]
theorem hm195 (hc : c = 89 ∨ c = 90) (H : xhM (xm S 0 c) h s) (B : xhB 80 h) {x : Nat} (hx : x < 8) (hh : 0 < h x) : ∃ M, xr_Call (d + 3) 195 [xP 0 c, xI (nI x)] ([], w) S = some (.inl (some (s x (h x - 1))), ([], w), xs S M) ∧ xhM (M 0 c) (hup h x (h x - 1)) s ∧ (∀ b e, ¬ (b = 0 ∧ e = c) → M b e = xm S b e) ∧ ∀ k, k < 145 → M 0 c k = xm S 0 c k := by
  have H1 := H.1
  have b1 := B x hx
  have e1 : xr_Call (d + 2) 193 [xP 0 c, xI (nI x)] ([], w) S = some (.inl (some (s x (h x - 1))), ([], w), S) := by
    rw [xe193 (d + 1) w S c hc]
    have e := H.2 x (h x - 1) hx (by omega)
    rw [show 153 + 80 * x + (h x - 1) = 153 + 80 * x + h x - 1 by omega] at e
    simp (disch := omega) only [xi_t, xn_k, xn_lt, xn_eq, xn_mul, xn_add, xn_sub, xn_dec, xn_m1, xn_1m, if_pos, if_neg, if_true, if_false, cond_true, cond_false, true_and, and_true, false_and, and_false, xr_cI_s, xr_cV_s, xr_cI_e, xr_cV_e, xm_xs, xs_xs, hm192 hc H, e]
  refine ⟨xw (xw (xm S) 0 c (145 + x) (nI (h x - 1))) 0 c (153 + 80 * x + (h x - 1)) (nI 0), ?_, ⟨?_, ?_⟩, ?_, ?_⟩
  · rw [xe195 (d + 2) w S c hc]
    simp (disch := omega) only [xi_t, xn_k, xn_lt, xn_eq, xn_mul, xn_add, xn_sub, xn_dec, xn_m1, xn_1m, if_pos, if_neg, if_true, if_false, cond_true, cond_false, true_and, and_true, false_and, and_false, xr_cI_s, xr_cV_s, xr_cI_e, xr_cV_e, xm_xs, xs_xs, xw_y, xw_n, e1, H1, xe192 (d + 1) w _ c hc]
  · intro y hy
    unfold hup
    by_cases q : y = x
    · simp (disch := omega) only [xw_y, xw_n, xu_y, xu_n, if_pos, if_neg, if_true, if_false, true_and, and_true, false_and, and_false]
    · simp (disch := omega) only [xw_y, xw_n, xu_y, xu_n, if_pos, if_neg, if_true, if_false, true_and, and_true, false_and, and_false, H1]
  · intro y k hy hk
    have b2 := B y hy
    unfold hup at hk
    by_cases q : y = x
    · subst q; rw [if_pos rfl] at hk
      rw [xw_n (by omega), xw_n (by omega)]
      exact H.2 y k hy (by omega)
    · rw [if_neg q] at hk
      rw [xw_n (by omega), xw_n (by omega)]
      exact H.2 y k hy hk
  · intro b e q
    rw [xw_r (by omega), xw_r (by omega)]
  · intro k hk
    rw [xw_n (by omega), xw_n (by omega)]
/-- one shard falls: as slides and goats do it -/
theorem hmfall (hc : c = 89 ∨ c = 90) (H : xhM (xm S 0 c) h s) (B : xhB 80 h) {x : Nat} (hx : x < 8) (hh : 0 < h x) (hl : h (hlow h x) < 80) : ∃ M1 M, xr_Call (d + 3) 195 [xP 0 c, xI (nI x)] ([], w) S = some (.inl (some (s x (h x - 1))), ([], w), xs S M1) ∧ xr_Call (d + 3) 194 [xP 0 c, xI (nI (hlow h x)), xI (s x (h x - 1))] ([], w) (xs S M1) = some (.inl none, ([], w), xs S M) ∧ xhM (M 0 c) (hfh h x) (hfs h s x) ∧ (∀ b e, ¬ (b = 0 ∧ e = c) → M b e = xm S b e) ∧ ∀ k, k < 145 → M 0 c k = xm S 0 c k := by
  obtain ⟨M1, e1, H1, F1, G1⟩ := hm195 (d := d) (w := w) hc H B hx hh
  have B1 : xhB 80 (hup h x (h x - 1)) := by
    intro y hy
    unfold hup
    have := B y hy
    have := B x hx
    split <;> omega
  have el : hup h x (h x - 1) (hlow h x) = h (hlow h x) := if_neg hlow_ne
  obtain ⟨M2, e2, H2, F2, G2⟩ := hm194 (d := d + 1) (w := w) (S := xs S M1) hc H1 B1 (hlow_lt (h := h) hx) (by rw [el]; exact hl) (s x (h x - 1))
  refine ⟨M1, M2, e1, e2, ?_, fun b e q => ?_, fun k hk => ?_⟩
  · rw [el] at H2
    exact H2
  · rw [F2 b e q]
    exact F1 b e q
  · rw [G2 k hk]
    exact G1 k hk
theorem hm198L (hc : c = 89 ∨ c = 90) {st : Nat} (hst : st < 100) (h1 : 1 ≤ st) : ∀ (n : Nat) (S : xr_S) (h : Nat → Nat) (s : Nat → Nat → Int32) (j : Nat) (v : xr_V), xhM (xm S 0 c) h s → xhB 80 h → hsq h ≤ n → xm S 0 73 3 = nI st → ∃ M, xr_Run (d + 3) 198 8 [xP 0 69, xP 0 c, xI (nI j), xI (oI (hfst st h)), v] [] ([], w) S = some (.inl (some (nI (j + (hset st n h s).1))), ([], w), xs S M) ∧ xhM (M 0 c) (hset st n h s).2.1 (hset st n h s).2.2 ∧ (∀ b e, ¬ (b = 0 ∧ e = c) → M b e = xm S b e) ∧ ∀ k, k < 145 → M 0 c k = xm S 0 c k := by
  intro n
  induction n with
  | zero =>
    intro S h s j v H B hq hs
    refine ⟨xm S, ?_, H, fun _ _ _ => rfl, fun _ _ => rfl⟩
    refine (xg198_8 _ _ _ _ hc _ _ _).trans ?_
    have e : hfst st h = none := by
      cases hf : hfst st h with
      | none => rfl
      | some x =>
        obtain ⟨hx, hs⟩ := hfst_some hf
        have := hsq_fall hx hs h1
        omega
    rw [e]
    simp (disch := omega) only [xi_t, xn_k, xn_lt, xn_eq, xn_mul, xn_add, xn_sub, xn_dec, xn_m1, xn_1m, if_pos, if_neg, if_true, if_false, cond_true, cond_false, true_and, and_true, false_and, and_false, xr_cI_s, xr_cV_s, xr_cI_e, xr_cV_e, xm_xs, xs_xs, hset, oI, xs_xm, Nat.add_zero]
  | succ n ih =>
    intro S h s j v H B hq hs
    cases hf : hfst st h with
    | none =>
      refine ⟨xm S, ?_, by rw [hset, hf]; exact H, fun _ _ _ => rfl, fun _ _ => rfl⟩
      refine (xg198_8 _ _ _ _ hc _ _ _).trans ?_
      simp (disch := omega) only [xi_t, xn_k, xn_lt, xn_eq, xn_mul, xn_add, xn_sub, xn_dec, xn_m1, xn_1m, if_pos, if_neg, if_true, if_false, cond_true, cond_false, true_and, and_true, false_and, and_false, xr_cI_s, xr_cV_s, xr_cI_e, xr_cV_e, xm_xs, xs_xs, hf, hset, oI, xs_xm, Nat.add_zero]
    | some x =>
      obtain ⟨hx, hs2⟩ := hfst_some hf
      have b1 := B x hx
      have B81 : xhB 81 h := fun y hy => Nat.le_succ_of_le (B y hy)
      obtain ⟨M0, M1, e0, e1, H1, F1, G1⟩ := hmfall (d := d) (w := w) hc H B hx (by omega) (by omega)
      have hq1 := hsq_fall hx hs2 h1
      have B1 := hfh_B B hx (by omega)
      have B181 : xhB 81 (hfh h x) := fun y hy => Nat.le_succ_of_le (B1 y hy)
      have hs1 : xm (xs S M1) 0 73 3 = nI st := by
        rw [xm_xs, F1 0 73 (by omega)]; exact hs
      obtain ⟨M2, e2, H2, F2, G2⟩ := ih (xs S M1) (hfh h x) (hfs h s x) (j + 1) (xI (nI (hlow h x))) H1 B1 (by omega) hs1
      refine ⟨M2, ?_, ?_, ?_, ?_⟩
      · refine (xg198_8 _ _ _ _ hc _ _ _).trans ?_
        have h7 := hm197 (d := d) (w := w) (S := xs S M1) hc H1 B181 hst hs1
        simp (disch := omega) only [xi_t, xn_k, xn_lt, xn_eq, xn_mul, xn_add, xn_sub, xn_dec, xn_m1, xn_1m, if_pos, if_neg, if_true, if_false, cond_true, cond_false, true_and, and_true, false_and, and_false, xr_cI_s, xr_cV_s, xr_cI_e, xr_cV_e, xm_xs, xs_xs, hm196 (d := d + 1) hc H B81 hx, oI, e0, e1, h7]
        rw [show hset st (n + 1) h s = ((hset st n (hfh h x) (hfs h s x)).1 + 1, (hset st n (hfh h x) (hfs h s x)).2) by rw [hset, hf]]
        rw [show j + ((hset st n (hfh h x) (hfs h s x)).fst + 1) = j + 1 + (hset st n (hfh h x) (hfs h s x)).fst by omega]
        exact e2
      · rw [hset, hf]; exact H2
      · intro b e q
        rw [F2 b e q]
        exact F1 b e q
      · intro k hk
        rw [G2 k hk]
        exact G1 k hk
theorem hm198 (hc : c = 89 ∨ c = 90) {st : Nat} (hst : st < 100) (h1 : 1 ≤ st) (H : xhM (xm S 0 c) h s) (B : xhB 80 h) {n : Nat} (hq : hsq h ≤ n) (hs : xm S 0 73 3 = nI st) : ∃ M, xr_Call (d + 4) 198 [xP 0 69, xP 0 c] ([], w) S = some (.inl (some (nI (hset st n h s).1)), ([], w), xs S M) ∧ xhM (M 0 c) (hset st n h s).2.1 (hset st n h s).2.2 ∧ (∀ b e, ¬ (b = 0 ∧ e = c) → M b e = xm S b e) ∧ ∀ k, k < 145 → M 0 c k = xm S 0 c k := by
  have B81 : xhB 81 h := fun y hy => Nat.le_succ_of_le (B y hy)
  obtain ⟨M, e, r⟩ := hm198L (d := d) (w := w) hc hst h1 n S h s 0 xU H B hq hs
  refine ⟨M, ?_, r⟩
  rw [xe198 (d + 3) w S c hc, hm197 (d := d) hc H B81 hst hs, xr_cI_s, e, Nat.zero_add]
end
