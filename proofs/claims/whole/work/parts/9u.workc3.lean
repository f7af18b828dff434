/-! THE WORK'S TEXT: the class, 3 -/
def CW (w : List Nat) (tb : Nat → Nat) (n np nq K lv : Nat) (sr : wS → wS) : Prop := ∀ (d : Nat) (S : xr_S) (s : wS), tX (xm S) tb n → xm S 0 35 0 = nI np → xm S 0 35 1 = nI nq → cWk (xm S) n s → wInv n s → ∃ M, xr_Call (d + K) 76 [xP 0 21, xP 0 1, xP 0 35, xI (nI lv)] ([], w) S = some (.inl none, ([], w), xs S M) ∧ kW (xm S) M ∧ cWk M n (sr s)
section
variable {d : Nat} {w : List Nat} {S : xr_S} {tb : Nat → Nat} {n np nq : Nat} {X : wX} {k : Nat} {sr : wS → wS}
theorem cWk_r {M M' : xr_M} {r r' : tR} (C : cWk M n (r, X)) (K : kC M M') (R : rC M' n r') (h : ∀ a', r' = .inl a' → ∃ a, r = .inl a) : cWk M' n (r', X) := by
  obtain ⟨_, ⟨z, h1, h2⟩, h3⟩ := C
  refine ⟨R, ⟨z, h1, by rw [K.1 0 21 (by omega)]; exact h2⟩, fun a' ha => ?_⟩
  obtain ⟨a, e⟩ := h a' ha
  obtain ⟨g1, g2⟩ := h3 a e
  exact ⟨by rw [K.1 0 21 (by omega)]; exact g1, cRows_C K g2⟩
theorem tc77g {a lv kk : Nat} (hX : X.1 < 150) (ha : a ≤ n) (h5 : 5 * (X.1 + 1) ≤ a) (p0 : xm S 0 35 0 = nI np) (p1 : xm S 0 35 1 = nI nq) (HS : CW w tb n np nq (kk + 2) (lv + 1) sr) (T : tX (xm S) tb n) (C : cWk (xm S) n (.inl a, X)) : ∃ M, xr_Call (d + kk + 3) 77 [xP 0 21, xP 0 1, xP 0 35, xI (nI 5), xI (nI lv)] ([], w) S = some (.inl none, ([], w), xs S M) ∧ kW (xm S) M ∧ cWk M n (pSgn tb n 93 (sr (pSgn tb n 91 (wNum tb n np nq 5 (.inl a)).2, wRow 5 (wNum tb n np nq 5 (.inl a)).1 X)).1, wEnd X.1 (sr (pSgn tb n 91 (wNum tb n np nq 5 (.inl a)).2, wRow 5 (wNum tb n np nq 5 (.inl a)).1 X)).2) := by
  obtain ⟨M0, q0, K0, Q0⟩ := tc77o (d := d + kk + 2) (w := w) (k := 5) (v4 := nI lv) hX C
  have T0 : tX (xm (xs S M0)) tb n := tX_W K0 T
  rw [q0]
  obtain ⟨M1, x1, e1, Q1, K1, V1, F1⟩ := wn1 (d := d + kk) (w := w) (S := xs S M0) (c := 23) (hn := 21) (hi := nI 20) (by omega) (hi9 (c := 20) (by omega)) T0 Q0
  rw [xs_xs] at e1
  rw [xm_xs] at K1
  have K1' := kW_tr K0 K1
  have C1 : cWk (xw M1 0 23 X.1 x1) n ((wNum tb n np nq 5 (.inl a)).2, wRow 5 (wNum tb n np nq 5 (.inl a)).1 X) := wPre_row hX Q1 (fun a' h => ⟨fun _ => by rw [xw_y (by omega)]; exact V1 a' h, fun h => by omega, fun h => by omega⟩)
  obtain ⟨M2, e2, K2, R2⟩ := tc91 (d := d + kk) (w := w) (S := xs S (xw M1 0 23 X.1 x1)) (tX_W K1' T) C1.1 (c := 91) (by omega)
  rw [xs_xs] at e2
  rw [xm_xs] at K2
  have K2' := kW_tr K1' (kC_W K2)
  have C2 : cWk (xm (xs S M2)) n (pSgn tb n 91 (wNum tb n np nq 5 (.inl a)).2, wRow 5 (wNum tb n np nq 5 (.inl a)).1 X) := cWk_r C1 K2 R2 (fun a' h => by obtain ⟨c, hc, _⟩ := pSgn_nn h; exact ⟨c, hc⟩)
  have I2 : wInv n (pSgn tb n 91 (wNum tb n np nq 5 (.inl a)).2, wRow 5 (wNum tb n np nq 5 (.inl a)).1 X) := fun c hc => by
    obtain ⟨c3, e3, g5, g6⟩ := pSgn_nn hc
    have := wNum_a ha e3
    exact ⟨g6, by show 5 * (X.1 + 1) ≤ c; omega⟩
  obtain ⟨M3, e3, K3, C3⟩ := HS d (xs S M2) _ (tX_W K2' T) (by rw [xm_xs, K2'.1 0 35 (by omega)]; exact p0) (by rw [xm_xs, K2'.1 0 35 (by omega)]; exact p1) C2 I2
  rw [xs_xs] at e3
  rw [xm_xs] at K3
  have K3' := kW_tr K2' K3
  generalize sr (pSgn tb n 91 (wNum tb n np nq 5 (.inl a)).2, wRow 5 (wNum tb n np nq 5 (.inl a)).1 X) = s2 at C3 ⊢
  obtain ⟨M4, e4, K4, R4⟩ := tc91 (d := d + kk) (w := w) (S := xs S M3) (tX_W K3' T) C3.1 (c := 93) (by omega)
  rw [xs_xs] at e4
  rw [xm_xs] at K4
  have C4 : cWk M4 n (pSgn tb n 93 s2.1, s2.2) := cWk_r (r := s2.1) C3 K4 R4 (fun a' h => by obtain ⟨c, hc, _⟩ := pSgn_nn h; exact ⟨c, hc⟩)
  refine ⟨xw M4 0 26 X.1 (M4 0 21 5), ?_, kW_tr K3' (kW_tr (kC_W K4) (kW_w _ (by omega) _ _)), ?_⟩
  · refine (xg77_36_5 _ _ _ _ _ _).trans ?_
    rw [e1, xr_cI_s]
    simp (disch := omega) only [xi_t, xn_k, cond_true, xm_xs, xs_xs, e2, xr_cV_s, xn_add]
    rw [show d + kk + 2 = d + (kk + 2) by omega, e3, xr_cV_s, show d + (kk + 2) = d + kk + 2 by omega, e4, xr_cV_s, xm_xs, xs_xs]
  · obtain ⟨c1, ⟨z, z1, z2⟩, c3⟩ := C4
    refine ⟨?_, ⟨z, z1, by rw [xw_n (by omega)]; exact z2⟩, fun a' h => ?_⟩
    · unfold rC at c1 ⊢
      rw [xw_r (show ¬ (0 = 0 ∧ 1 = 26) by omega)]
      exact c1
    · obtain ⟨c4, c5⟩ := c3 a' h
      dsimp only at c4 c5
      refine ⟨by rw [xw_n (by omega)]; exact c4, fun j hj => ?_⟩
      have hj : j < s2.2.1 := hj
      obtain ⟨c6, c7⟩ := c5 j hj
      unfold wEnd
      dsimp only
      refine ⟨?_, ?_⟩
      · unfold cRw at c6 ⊢
        rw [xw_n (by omega), xw_n (by omega), xw_n (by omega), xw_n (by omega)]
        exact c6
      · by_cases q : j = X.1
        · rw [if_pos q, q, xw_y (by omega), c4]
        · rw [if_neg q, xw_n (by omega)]; exact c7
end
