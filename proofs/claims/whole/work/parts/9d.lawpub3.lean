/-! THE LAW: the public call, class -/
abbrev xMl : xr_N := ([], [35, 44, 58, 53, 63, 66])
def tMo (r : tR) (m : xr_N) : xr_N := match r with
  | .inl _ => m
  | .inr _ => xMd
section
variable {d : Nat} {w : List Nat} {S : xr_S} {tb : Nat → Nat} {n : Nat}
theorem rC_res {M : xr_M} {r : tR} (R : rC M n r) : M 0 1 6 = tPlc r ∧ (∀ a, r = .inl a → M 0 1 5 = nI 0) ∧ (∀ q, r = .inr q → ¬ M 0 1 5 = nI 0 ∧ M 0 1 5 - nI 10 = tRes r) := by
  cases r with
  | inl a => exact ⟨R.2.1, fun _ _ => R.1, fun q h => nomatch h⟩
  | inr q =>
    obtain ⟨k, p⟩ := q
    obtain ⟨r1, r2, r3, _⟩ := R
    refine ⟨r3, (fun a h => nomatch h), fun q h => ⟨?_, ?_⟩⟩
    · rw [r1, xn_eq (by omega) (by omega)]; omega
    · rw [r1]; rfl
/-- the class begins to read -/
theorem tc81 (hn : n ≤ 600) (hb : ∀ k, tb k ≤ 255) (h : ∀ k, k < n → xm S 0 2 k = nI (tb k)) : ∃ M, xr_Call (d + 1) 81 [xP 0 1, xI (nI n)] ([], w) S = some (.inl none, ([], w), xs S M) ∧ tX M tb n ∧ rC M n (.inl 0) ∧ M 0 1 1 = nI 0 ∧ (∀ b e, ¬ (b = 0 ∧ e = 1) → M b e = xm S b e) ∧ M 0 1 0 = xm S 0 1 0 := by
  have e1 : (if nI 0 < (if nI 600 < nI n then nI 600 else nI n) then (if nI 600 < nI n then nI 600 else nI n) else nI 0) = nI n := by
    rw [if_neg (show ¬ nI 600 < nI n by rw [xn_lt (by omega) (by omega)]; omega)]
    by_cases q : 0 < n
    · rw [if_pos (by rw [xn_lt (by omega) (by omega)]; exact q)]
    · rw [if_neg (by rw [xn_lt (by omega) (by omega)]; exact q), show n = 0 by omega]
  refine ⟨_, by rw [xe81, e1], ⟨hn, hb, ?_, fun k hk => ?_⟩, ⟨?_, ?_, ?_, Nat.zero_le _⟩, ?_, fun b e q => ?_, ?_⟩
  · simp (disch := omega) only [xw_y, xw_n]
  · rw [xw_r (by omega), xw_r (by omega), xw_r (by omega), xw_r (by omega), xw_r (by omega), xw_r (by omega)]; exact h k hk
  · simp (disch := omega) only [xw_y, xw_n]
  · simp (disch := omega) only [xw_y, xw_n]
  · simp (disch := omega) only [xw_y, xw_n]
  · simp (disch := omega) only [xw_y, xw_n]
  · rw [xw_r q, xw_r q, xw_r q, xw_r q, xw_r q, xw_r q]
  · simp (disch := omega) only [xw_y, xw_n]
theorem xmn {M : xr_M} {L c : Nat} (hc : c < 10000) (hL : L < 10000) (e : M 0 1 1 = nI L) : (if M 0 1 1 < nI c then M 0 1 1 else nI c) = nI (min L c) := by
  rw [e]
  by_cases q : L < c
  · rw [if_pos (by rw [xn_lt (by omega) (by omega)]; exact q), Nat.min_eq_left (by omega)]
  · rw [if_neg (by rw [xn_lt (by omega) (by omega)]; exact q), Nat.min_eq_right (by omega)]
theorem tc102y (hn : n ≤ 150) {L : Nat} (hL : n ≤ L) (B : tB (xm S) tb L) : ∃ M, xr_Call (d + 60) 102 [xP 0 0, xI (nI n)] xMd S = some (.inl (some (tRes (lAll tb n).1)), tMo (lAll tb n).1 xMl, xs S M) ∧ (M 0 1 1 = nI 0 ∧ M 0 1 0 = xm S 0 1 0 ∧ M 0 0 15 = tPlc (lAll tb n).1) ∧ (∀ b e, ¬ (b = 0 ∧ (e = 0 ∨ e = 1 ∨ e = 58 ∨ e = 59 ∨ e = 60)) → M b e = xm S b e) ∧ (∀ k, ¬ k = 15 → M 0 0 k = xm S 0 0 k) ∧ cLw M n (lAll tb n) := by
  obtain ⟨⟨B1, B2⟩, ⟨B3, B5⟩, _⟩ := B
  obtain ⟨M1, q1, X1, R1, f1, F1, f0⟩ := tc81 (d := d + 58) (w := [35, 44, 53, 58, 63, 66]) (S := S) (tb := tb) (n := n) (by omega) B2 (fun k hk => B5 k (by omega))
  obtain ⟨M2, q2, K2, C2⟩ := tc46 (d := d + 22) (w := [35, 44, 53, 58, 63, 66]) (tb := tb) hn (S := xs S M1) X1 R1
  rw [xs_xs] at q2
  rw [xm_xs] at K2
  obtain ⟨r6, ra, rb⟩ := rC_res C2.1
  have E : ∀ b e, ¬ (b = 0 ∧ e = 0) → xw M2 0 0 15 (M2 0 1 6) b e = M2 b e := fun b e h => by rw [xw_r h]
  have C3 : cLw (xw M2 0 0 15 (M2 0 1 6)) n (lAll tb n) := by
    obtain ⟨c1, c2, c3⟩ := C2
    refine ⟨?_, ?_, ?_⟩
    · unfold rC at c1 ⊢
      rw [E 0 1 (by omega)]
      exact c1
    · rw [E 0 58 (by omega)]; exact c2
    · rw [E 0 58 (by omega), E 0 59 (by omega), E 0 60 (by omega)]; exact c3
  have pre : xr_Call (d + 60) 102 [xP 0 0, xI (nI n)] xMd S = (xr_cI xMd (xr_Call (d + 59) 82 [xP 0 1] xMd (xs S (xw M2 0 0 15 (M2 0 1 6)))) (fun x5 S4 => (if x5 = nI 0 then (some (.inl (some (((xm S4) 0 1 5) - nI 10)), xMd, S4)) else (some (.inl (some (nI 1)), xMl, S4))))) := by
    rw [xe102, xmn (by omega) (by omega) B3, show xr_Call (d + 59) 141 [xP 0 0, xI (nI n), xI (nI 0), xI (nI (min L 150))] xMd S = _ from qc141y (Nat.zero_le n) (by omega) (by omega), xr_cV_s, show xr_Call (d + 59) 81 [xP 0 1, xI (nI n)] xMd S = _ from q1, xr_cV_s, show xr_Call (d + 59) 46 [xP 0 58, xP 0 1] xMd (xs S M1) = _ from q2, xr_cV_s, xm_xs, xs_xs]
  refine ⟨xw M2 0 0 15 (M2 0 1 6), ?_, ⟨?_, ?_, ?_⟩, fun b e h => ?_, fun k hk => ?_, C3⟩
  · rw [pre, xe82, xm_xs, E 0 1 (by omega)]
    cases he : (lAll tb n).1 with
    | inl a => rw [if_pos (ra a he), xr_cI_s, if_neg (by rw [xn_eq (by omega) (by omega)]; omega)]; rfl
    | inr q =>
      rw [if_neg (rb q he).1, xr_cI_s, if_pos rfl, xm_xs, E 0 1 (by omega), (rb q he).2, he]; rfl
  · rw [E 0 1 (by omega), K2.2 1 (by omega)]; exact f1
  · rw [E 0 1 (by omega), K2.2 0 (by omega)]; exact f0
  · rw [xw_y (by omega)]; exact r6
  · rw [E b e (by omega), K2.1 b e (by omega), F1 b e (by omega)]
  · rw [xw_n (by omega), K2.1 0 0 (by omega), F1 0 0 (by omega)]
end
