/-! THE WORK'S TEXT: the class, 2 -/
section
variable {d : Nat} {w : List Nat} {S : xr_S} {tb : Nat → Nat} {n np nq : Nat} {X : wX} {k : Nat}
theorem tc77o {a : Nat} {v4 : Int32} (hX : X.1 < 150) (C : cWk (xm S) n (.inl a, X)) : ∃ M, xr_Call (d + 1) 77 [xP 0 21, xP 0 1, xP 0 35, xI (nI k), xI v4] ([], w) S = xr_Run d 77 36 [xP 0 21, xP 0 1, xP 0 35, xI (nI k), xI v4, xI (nI X.1)] [xI (nI k)] ([], w) (xs S M) ∧ kW (xm S) M ∧ wPre M n (.inl a) X k := by
  obtain ⟨c1, _, c3⟩ := C
  obtain ⟨c4, c5⟩ := c3 a rfl
  dsimp only at c4 c5
  have e5 : xw (xw (xm S) 0 21 5 (nI (X.1 + 1))) 0 22 X.1 (nI k) 0 21 5 = nI (X.1 + 1) := by rw [xw_n (by omega), xw_y (by omega)]
  refine ⟨xw (xw (xw (xm S) 0 21 5 (nI (X.1 + 1))) 0 22 X.1 (nI k)) 0 26 X.1 (nI (X.1 + 1)), ?_, kW_tr (kW_w _ (by omega) _ _) (kW_tr (kW_w _ (by omega) _ _) (kW_w _ (by omega) _ _)), ?_, ?_, ?_, ?_, ?_⟩
  · rw [xe77, c4]
    simp (disch := omega) only [xi_t, xn_k, cond_true, xn_add, e5]
  · unfold rC at c1 ⊢
    rw [xw_r (by omega), xw_r (by omega), xw_r (by omega)]
    exact c1
  · rw [xw_n (by omega), xw_n (by omega), xw_y (by omega)]
  · refine cRows_w (Nat.le_refl _) (cRows_w (Nat.le_refl _) (fun j hj => ?_))
    unfold cRw
    rw [xw_n (by omega), xw_n (by omega), xw_n (by omega), xw_n (by omega), xw_n (by omega)]
    exact c5 j hj
  · rw [xw_n (by omega), xw_y (by omega)]
  · rw [xw_y (by omega)]
theorem tc77 {a : Nat} {v4 : Int32} (hk : k ≤ 4) (hX : X.1 < 150) (hp : np ≤ 8 ∧ nq ≤ 8) (p0 : xm S 0 35 0 = nI np) (p1 : xm S 0 35 1 = nI nq) (T : tX (xm S) tb n) (C : cWk (xm S) n (.inl a, X)) : ∃ M, xr_Call (d + 3) 77 [xP 0 21, xP 0 1, xP 0 35, xI (nI k), xI v4] ([], w) S = some (.inl none, ([], w), xs S M) ∧ kW (xm S) M ∧ cWk M n ((wNum tb n np nq k (.inl a)).2, wRow k (wNum tb n np nq k (.inl a)).1 X) := by
  obtain ⟨M0, q0, K0, Q0⟩ := tc77o (d := d + 2) (w := w) (k := k) (v4 := v4) hX C
  have T0 : tX (xm (xs S M0)) tb n := tX_W K0 T
  have f0 : M0 0 35 0 = nI np := by rw [K0.1 0 35 (by omega)]; exact p0
  have f1 : M0 0 35 1 = nI nq := by rw [K0.1 0 35 (by omega)]; exact p1
  rw [q0]
  have hk : k = 0 ∨ k = 1 ∨ k = 2 ∨ k = 3 ∨ k = 4 := by omega
  rcases hk with rfl | rfl | rfl | rfl | rfl
  · obtain ⟨M1, x1, e1, Q1, K1, V1, F1⟩ := wn1 (d := d) (w := w) (S := xs S M0) (c := 23) (hn := nq) (hi := nI nq - nI 1) (by omega) (hiM (by omega)) T0 Q0
    rw [xs_xs] at e1
    rw [xm_xs] at K1
    refine ⟨_, ?_, kW_tr K0 K1, wPre_row hX Q1 (fun a' h => ⟨fun _ => ?_, fun h => by omega, fun h => by omega⟩)⟩
    · refine (xg77_36_0 _ _ _ _ _ _).trans ?_
      rw [xm_xs, f1, e1, xr_cI_s]
      simp (disch := omega) only [xi_t, xn_k, cond_true, xm_xs, xs_xs]
    · rw [xw_y (by omega)]; exact V1 a' h
  · obtain ⟨M1, x1, e1, Q1, K1, V1, F1⟩ := wn1 (d := d) (w := w) (S := xs S M0) (c := 23) (hn := nq) (hi := nI nq - nI 1) (by omega) (hiM (by omega)) T0 Q0
    rw [xs_xs] at e1
    rw [xm_xs] at K1
    have K1' := kW_tr K0 K1
    obtain ⟨M2, x2, e2, Q2, K2, V2, F2⟩ := wn1 (d := d) (w := w) (S := xs S (xw M1 0 23 X.1 x1)) (c := 24) (hn := 2) (hi := nI 1) (by omega) (hi9 (c := 1) (by omega)) (tX_W K1' T) Q1
    rw [xs_xs] at e2
    rw [xm_xs] at K2
    have K2' := kW_tr K1' K2
    obtain ⟨M3, x3, e3, Q3, K3, V3, F3⟩ := wn1 (d := d) (w := w) (S := xs S (xw M2 0 24 X.1 x2)) (c := 25) (hn := np) (hi := nI np - nI 1) (by omega) (hiM (by omega)) (tX_W K2' T) Q2
    rw [xs_xs] at e3
    rw [xm_xs] at K3
    have g0 : xw M2 0 24 X.1 x2 0 35 0 = nI np := by rw [K2'.1 0 35 (by omega)]; exact p0
    refine ⟨_, ?_, kW_tr K2' K3, wPre_row hX Q3 (fun a' h => ?_)⟩
    · refine (xg77_36_1 _ _ _ _ _ _).trans ?_
      rw [xm_xs, f1, e1, xr_cI_s]
      simp (disch := omega) only [xi_t, xn_k, cond_true, xm_xs, xs_xs, e2, xr_cI_s, g0, e3]
    · obtain ⟨c2, h2, _⟩ := pNum_a' h
      obtain ⟨c1, h1, _⟩ := pNum_a' h2
      refine ⟨fun _ => ?_, fun _ => ?_, fun _ => ?_⟩
      · rw [F3 23 (by omega) (by omega), xm_xs, F2 23 (by omega) (by omega), xm_xs, xw_y (by omega)]; exact V1 c1 h1
      · rw [F3 24 (by omega) (by omega), xm_xs, xw_y (by omega)]; exact V2 c2 h2
      · rw [xw_y (by omega)]; exact V3 a' h
  · obtain ⟨M1, x1, e1, Q1, K1, V1, F1⟩ := wn1 (d := d) (w := w) (S := xs S M0) (c := 23) (hn := nq) (hi := nI nq - nI 1) (by omega) (hiM (by omega)) T0 Q0
    rw [xs_xs] at e1
    rw [xm_xs] at K1
    have K1' := kW_tr K0 K1
    obtain ⟨M2, x2, e2, Q2, K2, V2, F2⟩ := wn1 (d := d) (w := w) (S := xs S (xw M1 0 23 X.1 x1)) (c := 24) (hn := 8) (hi := nI 7) (by omega) (hi9 (c := 7) (by omega)) (tX_W K1' T) Q1
    rw [xs_xs] at e2
    rw [xm_xs] at K2
    refine ⟨_, ?_, kW_tr K1' K2, wPre_row hX Q2 (fun a' h => ?_)⟩
    · refine (xg77_36_2 _ _ _ _ _ _).trans ?_
      rw [xm_xs, f1, e1, xr_cI_s]
      simp (disch := omega) only [xi_t, xn_k, cond_true, xm_xs, xs_xs, e2, xr_cI_s]
    · obtain ⟨c1, h1, _⟩ := pNum_a' h
      refine ⟨fun _ => ?_, fun _ => ?_, fun h => by omega⟩
      · rw [F2 23 (by omega) (by omega), xm_xs, xw_y (by omega)]; exact V1 c1 h1
      · rw [xw_y (by omega)]; exact V2 a' h
  · obtain ⟨M1, x1, e1, Q1, K1, V1, F1⟩ := wn1 (d := d) (w := w) (S := xs S M0) (c := 23) (hn := 8) (hi := nI 7) (by omega) (hi9 (c := 7) (by omega)) T0 Q0
    rw [xs_xs] at e1
    rw [xm_xs] at K1
    refine ⟨_, ?_, kW_tr K0 K1, wPre_row hX Q1 (fun a' h => ⟨fun _ => ?_, fun h => by omega, fun h => by omega⟩)⟩
    · refine (xg77_36_3 _ _ _ _ _ _).trans ?_
      rw [e1, xr_cI_s]
      simp (disch := omega) only [xi_t, xn_k, cond_true, xm_xs, xs_xs]
    · rw [xw_y (by omega)]; exact V1 a' h
  · refine ⟨M0, ?_, K0, wPre_row hX Q0 (fun a' _ => ⟨fun h => absurd rfl h, fun h => by omega, fun h => by omega⟩)⟩
    exact xg77_36_4 _ _ _ _ _ _
end
