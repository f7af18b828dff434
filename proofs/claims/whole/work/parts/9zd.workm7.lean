/-! THE WORK'S TEXT: the model, 7: one step -/
section
variable {w : List Nat} {tb : Nat → Nat} {n np nq o : Nat}
theorem tm189 {kk : Nat} {full : Bool} {sr : wS → wS} {F : Nat → wX → wS} (hn : n < 400) (hp : np ≤ 8 ∧ nq ≤ 8) (hf : full = decide (¬ o < 6)) (ho : o ≤ 6) (hsr : full = false → sr = wItr tb n F false 150) (HF : full = false → MS w tb n np nq (kk + 5) (o + 1) F) (hFi : full = false → ∀ b X, b ≤ n → 5 * X.1 ≤ b → wInv n (F b X)) (hFm : full = false → ∀ b X a', b ≤ n → (F b X).1 = .inl a' → b + 5 ≤ a') : MS w tb n np nq (kk + 6) o (wStp tb n np nq full sr) := by
  intro d S b X op Y p0 p1 hs hb h5 C
  have hX : X.1 < 80 := by omega
  have n1 : ¬ nI 1 = nI 0 := by rw [xn_eq (by omega) (by omega)]; omega
  have q8 := tm188 (d := d + kk) (w := w) hs Y C.1
  obtain ⟨⟨r1, r2, r3, r4⟩, c2⟩ := id C
  obtain ⟨c3, c4, c5⟩ := c2 b rfl
  rw [show d + (kk + 6) = d + kk + 5 + 1 by omega, show xr_Call (d + kk + 5 + 1) 189 [xP 0 69] ([], w) S = xr_Run (d + kk + 5) 189 0 [xP 0 69, xU, xU] [] ([], w) S from rfl, xh189_0, q8, xr_cI_s]
  unfold wStp
  cases hk : wKnd tb b (wend tb n b) with
  | none =>
    obtain ⟨M1, e1, K1, R1, _⟩ := tm159 (d := d + kk + 4) (w := w) (S := S) (n := n) (r := .inl b) (k := 1) (p := b) (by omega) hb C.1
    have R1 : rM M1 n (.inr (1, b)) := R1
    refine ⟨M1, ?_, kM_V K1, R1, fun a h => nomatch h⟩
    rw [if_pos (show lKI none = -1 from rfl), r3, show xr_Call (d + kk + 5) 159 [xP 0 69, xI (nI 1), xI (nI b)] ([], w) S = _ from e1, xr_cV_s, xh189_19, if_neg (show ¬ lKI none = nI 5 by decide), xh189_32, if_neg (show ¬ xm (xs S M1) 0 69 5 = nI 0 from rM_5 R1)]
  | some k =>
    have hk5 := wKnd_le hk
    obtain ⟨l1, l2, l3⟩ := wKnd_len hk
    rw [if_neg (show ¬ lKI (some k) = -1 from fun h => (xn_m1 (show k < 2147483648 by omega)).mp h), xh189_19]
    unfold wKin
    dsimp only
    by_cases k5 : k = 5
    · subst k5
      rw [if_pos (show lKI (some 5) = nI 5 from rfl), if_pos rfl]
      by_cases h6 : o < 6
      · have hff : full = false := by rw [hf]; exact decide_eq_false (by omega)
        rw [if_neg (by rw [hff]; decide), show xr_Call (d + kk + 5) 180 [xP 0 69] ([], w) S = _ from tm180y (d := d + kk + 3) C.1 c3 h6, xr_cI_s, if_neg n1, hsr hff]
        have K1 : kV (xm S) (xw (xm S) 0 69 8 (nI (o + 1))) := kV_v _ (by omega) _
        have C1 : mWk (xm (xs S (xw (xm S) 0 69 8 (nI (o + 1))))) n (o + 1) op (.inl b, X) := ⟨rM_o C.1 (by omega) _, fun _ _ => ⟨by rw [xm_xs, xw_y (by omega)], by rw [xm_xs, xw_n (by omega)]; exact c4, mRows_v c5⟩⟩
        obtain ⟨M2, e2, K2, C2⟩ := tm189g (d := d) (kk := kk + 2) (w := w) (S := xs S (xw (xm S) 0 69 8 (nI (o + 1)))) (np := np) (nq := nq) hX hb (by have := l3 rfl; omega) (by rw [xm_xs, xw_n (by omega)]; exact p0) (by rw [xm_xs, xw_n (by omega)]; exact p1) (HF hff) (hFi hff) (hFm hff) (tY_V K1 Y) C1
        rw [xs_xs] at e2
        rw [xm_xs] at K2
        exact ⟨M2, e2, kV_tr K1 K2, C2⟩
      · have hff : full = true := by rw [hf]; exact decide_eq_true h6
        obtain ⟨M1, e1, K1, R1⟩ := tm180n (d := d + kk + 3) (w := w) (S := S) hb C.1 (by rw [c3, show o = 6 by omega])
        rw [if_pos hff, show xr_Call (d + kk + 5) 180 [xP 0 69] ([], w) S = _ from e1, xr_cI_s, if_pos rfl]
        exact ⟨M1, rfl, kM_V K1, R1, fun a h => nomatch h⟩
    · rw [if_neg (show ¬ lKI (some k) = nI 5 from fun h => k5 ((xn_eq (show k < 2147483648 by omega) (show 5 < 2147483648 by omega)).mp h)), if_neg k5]
      exact tm189s (d := d + kk + 2) (by omega) hX hp p0 p1 Y C
end
