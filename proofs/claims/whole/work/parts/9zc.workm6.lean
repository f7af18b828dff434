/-! THE WORK'S TEXT: the model, 6: a bracket from its number on -/
section
variable {w : List Nat} {tb : Nat → Nat} {n np nq o : Nat} {op : Nat → Bool}
theorem tm189g {d kk b : Nat} {S : xr_S} {X : wX} {F : Nat → wX → wS} (hX : X.1 < 80) (hb : b ≤ n) (h5 : 5 * (X.1 + 1) ≤ wend tb n b) (p0 : xm S 0 73 0 = nI np) (p1 : xm S 0 73 1 = nI nq) (HF : MS w tb n np nq (kk + 3) (o + 1) F) (hFi : ∀ b X, b ≤ n → 5 * X.1 ≤ b → wInv n (F b X)) (hFm : ∀ b X a', b ≤ n → (F b X).1 = .inl a' → b + 5 ≤ a') (Y : tY (xm S) tb n) (C : mWk (xm S) n (o + 1) op (.inl b, X)) : ∃ M, xr_Run (d + kk + 3) 189 32 [xP 0 69, xI (nI 5), xU] [] ([], w) S = some (.inl none, ([], w), xs S M) ∧ kV (xm S) M ∧ mWk M n o op (pSgn tb n 59 (pSgn tb n 93 (wItr tb n F false 150 (pSgn tb n 91 (wNum tb n np nq 5 (.inl (wend tb n b))).2, wRow 5 (wNum tb n np nq 5 (.inl (wend tb n b))).1 X)).1), wEnd X.1 (wItr tb n F false 150 (pSgn tb n 91 (wNum tb n np nq 5 (.inl (wend tb n b))).2, wRow 5 (wNum tb n np nq 5 (.inl (wend tb n b))).1 X)).2) := by
  have hn := Y.1
  have hw := wend_in (tb := tb) hb
  obtain ⟨M0, Q0, K0, e0⟩ := tm32 (d := d + kk) (w := w) (k := 5) hX Y C
  have ne : ∀ i j : Nat, i ≤ 5 → j ≤ 5 → ¬ i = j → ¬ nI i = nI j := fun i j h1 h2 h h3 => h ((xn_eq (by omega) (by omega)).mp h3)
  obtain ⟨M1, e1, Q1, K1, F1⟩ := wm1 (d := d + kk) (w := w) (S := xs S M0) (c := 1) (hn := 21) (hi := nI 20) (by omega) (hi9 (c := 20) (by omega)) (tY_V K0 Y) Q0
  rw [xs_xs] at e1
  rw [xm_xs] at K1
  have K1' := kV_tr K0 K1
  obtain ⟨M2, e2, K2, R2⟩ := tm168 (d := d + kk) (w := w) (S := xs S (xw M1 X.1 1088 1 (nI (pNum tb n 0 21 (.inl (wend tb n b))).1))) (tY_V K1' Y) Q1.1 (c := 91) (by omega)
  rw [xs_xs] at e2
  rw [xm_xs] at K2
  have K2' := kV_tr K1' (kM_V K2)
  obtain ⟨M3, e3, K3, R3⟩ := tm158r (d := d + kk + 1) (w := w) (S := xs S M2) (tY_V K2' Y) R2
  rw [xs_xs] at e3
  rw [xm_xs] at K3
  have K3' := kV_tr K2' (kM_V K3)
  have C3 : mWk (xm (xs S M3)) n (o + 1) (fun j => op j || decide (j = X.1)) (pSk tb n (pSgn tb n 91 (wNum tb n np nq 5 (.inl (wend tb n b))).2), wRow 5 (wNum tb n np nq 5 (.inl (wend tb n b))).1 X) := by
    obtain ⟨q1, q2, q3, q4, q5⟩ := Q1
    refine ⟨R3, fun a ha => ⟨?_, ?_, fun j hj => ?_⟩⟩
    · rw [xm_xs, K3.2 8 (by omega), K2.2 8 (by omega)]; exact q2
    · rw [xm_xs, K3.2 30 (by omega), K2.2 30 (by omega)]; exact q3
    · have hj : j < X.1 + 1 := hj
      unfold wRow
      dsimp only
      unfold mRw
      rw [xm_xs, K3.1 j 1088 (by omega), K2.1 j 1088 (by omega)]
      by_cases q : j = X.1
      · rw [if_pos q, if_pos q, q]
        refine ⟨⟨q5, fun _ => by rw [xw_y (by omega)]; rfl, fun h => by omega, fun h => by omega, fun h => by omega⟩, fun h => ?_⟩
        rw [decide_eq_true rfl, Bool.or_true] at h
        cases h
      · rw [if_neg q, if_neg q]
        obtain ⟨g1, g2⟩ := q4 j (by omega)
        refine ⟨g1, fun h => g2 ?_⟩
        rw [decide_eq_false q, Bool.or_false] at h
        exact h
  have hh : ∀ a, pSk tb n (pSgn tb n 91 (wNum tb n np nq 5 (.inl (wend tb n b))).2) = .inl a → n < a + 5 * 150 ∧ sk tb n a = a ∧ a ≤ n ∧ 5 * (wRow 5 (wNum tb n np nq 5 (.inl (wend tb n b))).1 X).1 ≤ a := fun a ha => by
    cases hp : pSgn tb n 91 (wNum tb n np nq 5 (.inl (wend tb n b))).2 with
    | inr q => rw [hp] at ha; cases ha
    | inl c =>
      rw [hp] at ha
      cases ha
      obtain ⟨c1, h1, l1, l2⟩ := pSgn_nn hp
      have l3 := wNum_a hw h1
      have l4 := sk_ge tb n c
      exact ⟨by omega, sk_sk _ _ _, sk_le l2, by show 5 * (X.1 + 1) ≤ _; omega⟩
  obtain ⟨M4, e4, K4, C4⟩ := tm174L (d := d) (kk := kk) (v1 := nI 5) (v2 := X.1) HF hFi hFm 150 (xs S M3) _ hh (tY_V K3' Y) (by rw [xm_xs, K3'.1 0 73 (by omega) (by omega)]; exact p0) (by rw [xm_xs, K3'.1 0 73 (by omega) (by omega)]; exact p1) C3
  rw [xs_xs] at e4
  rw [xm_xs] at K4
  have K4' := kV_tr K3' K4
  have eq : wItr tb n F false 150 (pSk tb n (pSgn tb n 91 (wNum tb n np nq 5 (.inl (wend tb n b))).2), wRow 5 (wNum tb n np nq 5 (.inl (wend tb n b))).1 X) = wItr tb n F false 150 (pSgn tb n 91 (wNum tb n np nq 5 (.inl (wend tb n b))).2, wRow 5 (wNum tb n np nq 5 (.inl (wend tb n b))).1 X) := by
    cases pSgn tb n 91 (wNum tb n np nq 5 (.inl (wend tb n b))).2 with
    | inr q => rfl
    | inl c => exact wItr_sk 149
  rw [eq] at C4
  obtain ⟨M5, e5, K5, C5⟩ := tm205 (d := d + kk) (w := w) (S := xs S M4) (v1 := nI 5) (fun a ha => by
    have := (wItr_inv hFi 150 _ (fun c hc => by
      obtain ⟨c1, h1, l1, l2⟩ := pSgn_nn hc
      have l3 := wNum_a hw h1
      exact ⟨l2, by show 5 * (X.1 + 1) ≤ _; omega⟩) a ha)
    omega) (tY_V K4' Y) C4
  rw [xs_xs] at e5
  rw [xm_xs] at K5
  refine ⟨M5, ?_, kV_tr K4' K5, C5⟩
  rw [e0, if_neg (by rw [xn_lt (by omega) (by omega)]; omega), xh189_89, if_neg (ne 5 1 (by omega) (by omega) (by omega)), xh189_119, if_neg (ne 5 2 (by omega) (by omega) (by omega)), xh189_134, if_neg (ne 5 3 (by omega) (by omega) (by omega)), xh189_149, if_pos rfl, e1, xr_cI_s]
  simp (disch := omega) only [xi_t, xn_k, cond_true, xm_xs, xs_xs, e2, xr_cV_s]
  rw [show xr_Call (d + kk + 3) 158 [xP 0 69] ([], w) (xs S M2) = _ from e3, xr_cV_s, e4]
  exact e5
end
