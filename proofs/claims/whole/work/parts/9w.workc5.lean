/-! THE WORK'S TEXT: the class, 5 -/
section
variable {w : List Nat} {tb : Nat → Nat} {n np nq : Nat} {sr : wS → wS}
theorem tc76 {kk lv : Nat} {full : Bool} (hn : n ≤ 600) (hp : np ≤ 8 ∧ nq ≤ 8) (hl : lv ≤ 6) (hf : full = decide (¬ lv < 6)) (hs : full = false → ∀ s, wInv n s → wInv n (sr s)) (HS : full = false → CW w tb n np nq (kk + 5) (lv + 1) sr) : CW w tb n np nq (kk + 7) lv (wItr tb n (wStp tb n np nq full sr) (decide (lv = 0)) 150) := by
  intro d S s T p0 p1 C I
  obtain ⟨M, q, K, C'⟩ := tc76L (d := d) hn hp hl hf hs HS 150 S s 0 xU (by omega) T p0 p1 C I
  refine ⟨M, ?_, K, C'⟩
  rw [show d + (kk + 7) = d + kk + 6 + 1 by omega, xe76]
  by_cases h : lv = 0
  · rw [if_pos h] at q
    rw [if_pos (by rw [h])]
    exact q
  · rw [if_neg h] at q
    rw [if_neg (fun e => h ((xn_eq (show lv < 2147483648 by omega) (show 0 < 2147483648 by omega)).mp e))]
    exact q
theorem tcIn (hn : n ≤ 600) (hp : np ≤ 8 ∧ nq ≤ 8) : ∀ L, L ≤ 5 → CW w tb n np nq (2 * L + 7) (6 - L) (wIn tb n np nq L)
  | 0, _ => tc76 (kk := 0) (lv := 6) (full := true) (sr := id) hn hp (by omega) (by decide) (fun h => by cases h) (fun h => by cases h)
  | L + 1, h => by
    have ih := tcIn hn hp L (by omega)
    have e : 6 - L = 6 - (L + 1) + 1 := by omega
    rw [e] at ih
    have t := tc76 (w := w) (tb := tb) (kk := 2 * L + 2) (lv := 6 - (L + 1)) (full := false) (sr := wIn tb n np nq L) hn hp (by omega) (decide_eq_false (by omega)).symm (fun _ => wIn_inv L) (fun _ => ih)
    rw [decide_eq_false (show ¬ 6 - (L + 1) = 0 by omega)] at t
    exact t
theorem tc75 {d : Nat} {S : xr_S} (hn : n ≤ 600) (hp : np ≤ 8 ∧ nq ≤ 8) (T : tX (xm S) tb n) (p0 : xm S 0 35 0 = nI np) (p1 : xm S 0 35 1 = nI nq) (R : rC (xm S) n (.inl 0)) : ∃ M, xr_Call (d + 20) 75 [xP 0 21, xP 0 1, xP 0 35] ([], w) S = some (.inl none, ([], w), xs S M) ∧ kW (xm S) M ∧ cWk M n (wAll tb n np nq) := by
  have K0 : kW (xm S) (xw (xm S) 0 21 5 (nI 0)) := kW_w _ (by omega) _ _
  have C0 : cWk (xm (xs S (xw (xm S) 0 21 5 (nI 0)))) n (.inl 0, 0, (fun _ => (0, 0, 0, 0)), (fun _ => 0)) := by
    refine ⟨?_, ⟨0, by omega, by rw [xm_xs, xw_y (by omega)]⟩, fun _ _ => ⟨by rw [xm_xs, xw_y (by omega)], fun j hj => absurd hj (Nat.not_lt_zero j)⟩⟩
    rw [xm_xs]
    unfold rC at R ⊢
    rw [xw_r (show ¬ (0 = 0 ∧ 1 = 21) by omega)]
    exact R
  obtain ⟨M, q, K, C⟩ := tc76 (w := w) (tb := tb) (kk := 12) (lv := 0) (full := false) (sr := wIn tb n np nq 5) hn hp (by omega) (by decide) (fun _ => wIn_inv 5) (fun _ => tcIn hn hp 5 (by omega)) d (xs S (xw (xm S) 0 21 5 (nI 0))) _ (tX_W K0 T) (by rw [xm_xs, xw_n (by omega)]; exact p0) (by rw [xm_xs, xw_n (by omega)]; exact p1) C0 (fun a h => by cases h; exact ⟨Nat.zero_le _, Nat.le_refl _⟩)
  rw [xs_xs] at q
  rw [xm_xs] at K
  refine ⟨M, ?_, kW_tr K0 K, C⟩
  rw [xe75, show xr_Call (d + 19) 76 [xP 0 21, xP 0 1, xP 0 35, xI (nI 0)] ([], w) (xs S (xw (xm S) 0 21 5 (nI 0))) = _ from q, xr_cV_s]
end
