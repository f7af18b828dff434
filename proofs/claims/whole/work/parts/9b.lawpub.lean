/-! THE LAW: the public call, model -/
/-- the answer of a text, and the place of its fault -/
def tRes : tR → Int32
  | .inl _ => nI 1
  | .inr (k, _) => nI k - nI 10
def tPlc : tR → Int32
  | .inl _ => -1
  | .inr (_, p) => nI p
def pSk (tb : Nat → Nat) (n : Nat) : tR → tR
  | .inl a => .inl (sk tb n a)
  | .inr q => .inr q
/-- bytes on the tape -/
def tB (M : xr_M) (tb : Nat → Nat) (L : Nat) : Prop := (L ≤ 600 ∧ ∀ k, tb k ≤ 255) ∧ (M 0 1 1 = nI L ∧ ∀ k, k < L → M 0 2 k = nI (tb k)) ∧ (M 0 69 1 = nI L ∧ ∀ k, k < L → M 0 70 k = nI (tb k))
def tBm (M : xr_M) (tb : Nat → Nat) (L : Nat) : Prop := (L ≤ 600 ∧ ∀ k, tb k ≤ 255) ∧ (M 0 69 1 = nI L ∧ ∀ k, k < L → M 0 70 k = nI (tb k))
section
variable {d : Nat} {w : List Nat} {S : xr_S} {tb : Nat → Nat} {n : Nat}
theorem rM_at {M : xr_M} {r : tR} (R : rM M n r) : ∃ a, a ≤ n ∧ M 0 69 4 = nI a := by
  cases r with
  | inl a => exact ⟨a, R.2.2.2, R.2.2.1⟩
  | inr q => exact R.2.2.2.2
theorem tm158r {r : tR} (Y : tY (xm S) tb n) (R : rM (xm S) n r) : ∃ M, xr_Call (d + 2) 158 [xP 0 69] ([], w) S = some (.inl none, ([], w), xs S M) ∧ kM (xm S) M ∧ rM M n (pSk tb n r) := by
  cases r with
  | inl a =>
    obtain ⟨r1, r2, r3, r4⟩ := R
    exact ⟨_, tm158 Y r4 r3, kM_w _ (by omega) _, by rw [xw_n (by omega)]; exact r1, by rw [xw_n (by omega)]; exact r2, xw_y (by omega), sk_le r4⟩
  | inr q =>
    obtain ⟨r1, r2, r3, r4, a, r5, r6⟩ := R
    exact ⟨_, tm158 Y r5 r6, kM_w _ (by omega) _, by rw [xw_n (by omega)]; exact r1, r2, by rw [xw_n (by omega)]; exact r3, r4, _, sk_le r5, xw_y (by omega)⟩
/-- reading begins -/
theorem tm170 (hn : n ≤ 600) (hb : ∀ k, tb k ≤ 255) (h : ∀ k, k < n → xm S 0 70 k = nI (tb k)) : ∃ M, xr_Call (d + 3) 170 [xP 0 69, xI (nI n)] ([], w) S = some (.inl none, ([], w), xs S M) ∧ tY M tb n ∧ rM M n (.inl (sk tb n 0)) ∧ (M 0 69 1 = nI 0 ∧ M 0 69 7 = nI 0 ∧ M 0 69 8 = nI 0) ∧ (∀ b e, ¬ (b = 0 ∧ e = 69) → M b e = xm S b e) ∧ ∀ k, ¬ (k = 1 ∨ k = 2 ∨ (4 ≤ k ∧ k ≤ 8)) → M 0 69 k = xm S 0 69 k := by
  obtain ⟨M0, hM⟩ : ∃ M0, M0 = (xw (xw (xw (xw (xw (xw (xw (xm S) 0 69 1 (nI 0)) 0 69 2 (nI n)) 0 69 4 (nI 0)) 0 69 5 (nI 0)) 0 69 6 (-1 : Int32)) 0 69 7 (nI 0)) 0 69 8 (nI 0)) := ⟨_, rfl⟩
  have F : ∀ b e, ¬ (b = 0 ∧ e = 69) → M0 b e = xm S b e := fun b e q => by
    rw [hM, xw_r q, xw_r q, xw_r q, xw_r q, xw_r q, xw_r q, xw_r q]
  have Y : tY (xm (xs S M0)) tb n := ⟨hn, hb, by rw [xm_xs, hM]; simp (disch := omega) only [xw_y, xw_n], fun k hk => by rw [xm_xs, F 0 70 (by omega)]; exact h k hk⟩
  have R : rM (xm (xs S M0)) n (.inl 0) := ⟨by rw [xm_xs, hM]; simp (disch := omega) only [xw_y, xw_n], by rw [xm_xs, hM]; simp (disch := omega) only [xw_y, xw_n], by rw [xm_xs, hM]; simp (disch := omega) only [xw_y, xw_n], Nat.zero_le _⟩
  obtain ⟨M1, q1, K1, R1⟩ := tm158r (d := d) (w := w) Y R
  rw [xs_xs] at q1
  rw [xm_xs] at K1 Y
  refine ⟨M1, ?_, ⟨hn, hb, by rw [K1.2 2 (by omega)]; exact Y.2.2.1, fun k hk => by rw [K1.1 0 70 (by omega)]; exact Y.2.2.2 k hk⟩, R1, ⟨?_, ?_, ?_⟩, fun b e q => by rw [K1.1 b e q]; exact F b e q, fun k hk => ?_⟩
  · rw [xe170, ← hM, q1, xr_cV_s]
  · rw [K1.2 1 (by omega), hM]; simp (disch := omega) only [xw_y, xw_n]
  · rw [K1.2 7 (by omega), hM]; simp (disch := omega) only [xw_y, xw_n]
  · rw [K1.2 8 (by omega), hM]; simp (disch := omega) only [xw_y, xw_n]
  · rw [K1.2 k (by omega), hM]; simp (disch := omega) only [xw_y, xw_n]
/-- reading ends in a fault -/
theorem tm171 {k p : Nat} (R : rM (xm S) n (.inr (k, p))) : xr_Call (d + 1) 171 [xP 0 69] ([], w) S = some (.inl (some (tRes (.inr (k, p)))), ([], w), xs S (xw (xm S) 0 69 3 (nI p))) := by
  rw [xe171, R.2.2.1, xw_n (by omega), R.1]; rfl
end
