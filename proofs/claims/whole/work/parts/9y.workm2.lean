/-! THE WORK'S TEXT: the model, 2 -/
section
variable {d : Nat} {w : List Nat} {S : xr_S} {tb : Nat → Nat} {n np nq o : Nat} {r : tR} {X : wX} {k : Nat} {op : Nat → Bool}
/-- a row's end, and its sign -/
theorem tm221 {v1 : Int32} {v : Nat × Nat × Nat} (Y : tY (xm S) tb n) (Q : wQm (xm S) n o op r X k) (h1 : ∀ a, r = .inl a → ((k = 0 ∨ k = 1 ∨ k = 2 ∨ k = 5) → xm S X.1 1088 1 = nI v.1) ∧ ((k = 1 ∨ k = 2) → xm S X.1 1088 2 = nI v.2.1) ∧ (k = 1 → xm S X.1 1088 3 = nI v.2.2) ∧ (k = 3 → xm S X.1 1088 2 = nI v.1)) : ∃ M, xr_Run (d + 3) 189 221 [xP 0 69, xI v1, xP X.1 1088] [] ([], w) S = some (.inl none, ([], w), xs S M) ∧ kV (xm S) M ∧ mWk M n o op (pSgn tb n 59 r, wRow k v X) := by
  obtain ⟨q1, q2, q3, q4, q5⟩ := Q
  have K0 : kV (xm S) (xw (xm S) X.1 1088 4 (nI (X.1 + 1))) := kV_w _ _ _ _
  have R0 : rM (xm (xs S (xw (xm S) X.1 1088 4 (nI (X.1 + 1))))) n r := by
    rw [xm_xs]
    unfold rM at q1 ⊢
    rw [xw_r (show ¬ (0 = X.1 ∧ 69 = 1088) by omega)]
    exact q1
  obtain ⟨M1, e1, K1, R1⟩ := tm168 (d := d) (w := w) (S := xs S (xw (xm S) X.1 1088 4 (nI (X.1 + 1)))) (tY_V K0 Y) R0 (c := 59) (by omega)
  rw [xs_xs] at e1
  rw [xm_xs] at K1
  refine ⟨M1, ?_, kV_tr K0 (kM_V K1), R1, fun a' ha => ?_⟩
  · refine (xh189_221 _ _ _ _ _).trans ?_
    rw [q3]
    simp (disch := omega) only [xi_t, xn_k, cond_true, e1, xr_cV_s]
  · obtain ⟨a, ea, _⟩ := pSgn_nn ha
    refine ⟨?_, ?_, fun j hj => ?_⟩
    · rw [K1.2 8 (by omega), xw_n (by omega)]; exact q2
    · rw [K1.2 30 (by omega), xw_n (by omega)]; exact q3
    · have hj : j < X.1 + 1 := hj
      unfold wRow
      dsimp only
      unfold mRw
      rw [K1.1 j 1088 (by omega)]
      by_cases q : j = X.1
      · rw [if_pos q, if_pos q, q]
        rw [xw_n (by omega), xw_n (by omega), xw_n (by omega), xw_n (by omega), xw_y (by omega)]
        exact ⟨⟨q5, h1 a ea⟩, fun _ => rfl⟩
      · rw [if_neg q, if_neg q, xw_r (by omega)]
        exact q4 j (by omega)
/-- a row begins -/
theorem tm32 {b : Nat} (hX : X.1 < 80) (Y : tY (xm S) tb n) (C : mWk (xm S) n o op (.inl b, X)) : ∃ M, wQm M n o op (.inl (wend tb n b)) X k ∧ kV (xm S) M ∧ xr_Run (d + 3) 189 32 [xP 0 69, xI (nI k), xU] [] ([], w) S = (if nI k < nI 3 then (cond (xr_in (nI 1) 4) (xr_cI ([], w) (xr_Call (d + 3) 162 [xP 0 69, xI (nI 0), xI ((M 0 73 1) - (nI 1))] ([], w) (xs S M)) (fun x3 S2 => (xr_Run (d + 3) 189 89 [xP 0 69, xI (nI k), xP X.1 1088] [] ([], w) (xs S2 (xw (xm S2) X.1 1088 1 x3))))) none) else (xr_Run (d + 3) 189 89 [xP 0 69, xI (nI k), xP X.1 1088] [] ([], w) (xs S M))) := by
  obtain ⟨c1, c2⟩ := C
  obtain ⟨c3, c4, c5⟩ := c2 b rfl
  dsimp only at c4 c5
  obtain ⟨e1, l1, l2⟩ := tm166 (d := d + 1) (w := w) Y c1
  have e30 : xw (xm S) 0 69 4 (nI (wend tb n b)) 0 69 30 = nI X.1 := by rw [xw_n (by omega)]; exact c4
  refine ⟨xw (xw (xw (xm S) 0 69 4 (nI (wend tb n b))) 0 69 30 (nI (X.1 + 1))) X.1 1088 0 (nI k), ⟨?_, ?_, ?_, mRows_w (Nat.le_refl _) (mRows_v (mRows_v c5)), ?_⟩, kV_tr (kM_V (kM_w _ (by omega) _)) (kV_tr (kV_v _ (by omega) _) (kV_w _ _ _ _)), ?_⟩
  · obtain ⟨r1, r2, r3, r4⟩ := c1
    exact ⟨by rw [xw_n (by omega), xw_n (by omega), xw_n (by omega)]; exact r1, by rw [xw_n (by omega), xw_n (by omega), xw_n (by omega)]; exact r2, by rw [xw_n (by omega), xw_n (by omega), xw_y (by omega)], l2⟩
  · rw [xw_n (by omega), xw_n (by omega), xw_n (by omega)]; exact c3
  · rw [xw_n (by omega), xw_y (by omega)]
  · rw [xw_y (by omega)]
  · refine (xh189_32 _ _ _ _).trans ?_
    rw [if_pos c1.1, show xr_Call (d + 3) 166 [xP 0 69] ([], w) S = _ from e1, xr_cV_s]
    simp (disch := omega) only [xi_t, xn_k, cond_true, xm_xs, xs_xs, e30, xn_add]
end
