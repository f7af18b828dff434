/-! THE WORK'S TEXT: the model, 9: the top loop -/
section
variable {w : List Nat} {tb : Nat → Nat} {n np nq o : Nat} {op : Nat → Bool}
theorem tm72L {d kk : Nat} {F : Nat → wX → wS} {v1 : Int32} (HF : MS w tb n np nq (kk + 3) o F) (hFi : ∀ b X, b ≤ n → 5 * X.1 ≤ b → wInv n (F b X)) (hFm : ∀ b X a', b ≤ n → (F b X).1 = .inl a' → b + 5 ≤ a') : ∀ (m : Nat) (S : xr_S) (s : wS), (∀ a, s.1 = .inl a → n < a + 5 * m ∧ sk tb n a = a ∧ a ≤ n ∧ 5 * s.2.1 ≤ a) → tY (xm S) tb n → xm S 0 73 0 = nI np → xm S 0 73 1 = nI nq → mWk (xm S) n o op s → ∃ M, xr_Run (d + kk + 3) 213 72 [xP 0 69, xI v1] [] ([], w) S = xr_Run (d + kk + 3) 213 72 [xP 0 69, xI v1] [] ([], w) (xs S M) ∧ kV (xm S) M ∧ mWk M n o op (wItr tb n F true m s) ∧ ∀ a, (wItr tb n F true m s).1 = .inl a → ¬ a < n
  | m, S, (.inr q, X), hm, Y, p0, p1, C => by
    refine ⟨xm S, by rw [xs_xm], kV_rf _, by rw [wItr_r]; exact C, ?_⟩
    rw [wItr_r]
    exact fun a h => nomatch h
  | 0, S, (.inl a, X), hm, Y, p0, p1, C => by
    have := hm a rfl
    omega
  | m + 1, S, (.inl a, X), hm, Y, p0, p1, C => by
    obtain ⟨h1, h2, h3, h4⟩ := hm a rfl
    dsimp only at h4
    obtain ⟨⟨r1, r2, r3, r4⟩, c2⟩ := id C
    have ei : wItr tb n F true (m + 1) (.inl a, X) = if wStop true tb n (sk tb n a) = true then (.inl (sk tb n a), X) else wItr tb n F true m (F (sk tb n a) X) := rfl
    rw [h2] at ei
    have hn := Y.1
    have pre : xr_Run (d + kk + 3) 213 72 [xP 0 69, xI v1] [] ([], w) S = _ := xg213_72 _ _ _ _
    rw [if_pos r1, r3, Y.2.2.1] at pre
    by_cases hst : a < n
    rotate_left
    · refine ⟨xm S, by rw [xs_xm], kV_rf _, ?_⟩
      rw [ei, if_pos (by unfold wStop; rw [if_pos rfl]; exact decide_eq_true hst)]
      exact ⟨C, fun a' h => by cases h; exact hst⟩
    · rw [if_pos (show nI a < nI n by rw [xn_lt (by omega) (by omega)]; exact hst)] at pre
      rw [ei, if_neg (by unfold wStop; rw [if_pos rfl, decide_eq_true_iff]; exact fun h => h hst)]
      obtain ⟨M1, q1, K1, C1⟩ := HF d S a X op Y p0 p1 h2 h3 h4 C
      rw [show xr_Call (d + kk + 3) 189 [xP 0 69] ([], w) S = _ from q1, xr_cV_s] at pre
      obtain ⟨M2, q2, K2, R2⟩ := tm158r (d := d + kk + 1) (w := w) (S := xs S M1) (tY_V K1 Y) C1.1
      rw [xs_xs] at q2
      rw [xm_xs] at K2
      rw [show xr_Call (d + kk + 3) 158 [xP 0 69] ([], w) (xs S M1) = _ from q2, xr_cV_s] at pre
      have K2' := kV_tr K1 (kM_V K2)
      have I1 := hFi a X h3 h4
      have m1 := hFm a X
      generalize F a X = s1 at C1 R2 I1 m1 ⊢
      obtain ⟨r1', X1⟩ := s1
      have C2 : mWk M2 n o op (pSk tb n r1', X1) := mWk_r C1 K2 R2 (fun a' h => by
        cases r1' with
        | inl c => exact ⟨c, rfl⟩
        | inr q => cases h)
      have hh : ∀ c, pSk tb n r1' = .inl c → n < c + 5 * m ∧ sk tb n c = c ∧ c ≤ n ∧ 5 * X1.1 ≤ c := fun c hc => by
        cases r1' with
        | inr q => cases hc
        | inl b =>
          cases hc
          have l1 := m1 b h3 rfl
          obtain ⟨l2, l3⟩ := I1 b rfl
          dsimp only at l3
          have l4 := sk_ge tb n b
          have l5 := sk_le (tb := tb) l2
          exact ⟨by omega, sk_sk _ _ _, l5, by omega⟩
      obtain ⟨M3, q3, K3, C3, Z3⟩ := tm72L HF hFi hFm m (xs S M2) (pSk tb n r1', X1) hh (tY_V K2' Y) (by rw [xm_xs, K2'.1 0 73 (by omega) (by omega)]; exact p0) (by rw [xm_xs, K2'.1 0 73 (by omega) (by omega)]; exact p1) C2
      rw [xs_xs] at q3
      rw [xm_xs] at K3
      refine ⟨M3, ?_, kV_tr K2' K3, ?_⟩
      · exact pre.trans q3
      cases r1' with
      | inr q => exact ⟨C3, Z3⟩
      | inl b =>
        have l1 := m1 b h3 rfl
        have l2 := (I1 b rfl).1
        obtain ⟨m', rfl⟩ : ∃ m', m = m' + 1 := ⟨m - 1, by have := hh _ rfl; omega⟩
        rw [show (pSk tb n (.inl b), X1) = ((.inl (sk tb n b) : tR), X1) from rfl, wItr_sk] at C3 Z3
        exact ⟨C3, Z3⟩
end
