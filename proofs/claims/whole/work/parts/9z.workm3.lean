/-! THE WORK'S TEXT: the model, 3 -/
section
variable {d : Nat} {w : List Nat} {S : xr_S} {tb : Nat → Nat} {n np nq o : Nat} {r : tR} {X : wX} {k : Nat} {op : Nat → Bool}
/-- a step of no bracket, from its numbers on -/
theorem tm189s {b : Nat} (hk : k ≤ 4) (hX : X.1 < 80) (hp : np ≤ 8 ∧ nq ≤ 8) (p0 : xm S 0 73 0 = nI np) (p1 : xm S 0 73 1 = nI nq) (Y : tY (xm S) tb n) (C : mWk (xm S) n o op (.inl b, X)) : ∃ M, xr_Run (d + 3) 189 32 [xP 0 69, xI (nI k), xU] [] ([], w) S = some (.inl none, ([], w), xs S M) ∧ kV (xm S) M ∧ mWk M n o op (pSgn tb n 59 (wNum tb n np nq k (.inl (wend tb n b))).2, wRow k (wNum tb n np nq k (.inl (wend tb n b))).1 X) := by
  obtain ⟨M0, Q0, K0, e0⟩ := tm32 (d := d) (w := w) (k := k) hX Y C
  have Y0 : tY (xm (xs S M0)) tb n := tY_V K0 Y
  have f1 : M0 0 73 1 = nI nq := by rw [K0.1 0 73 (by omega) (by omega)]; exact p1
  rw [e0, f1]
  have ne : ∀ i j : Nat, i ≤ 5 → j ≤ 5 → ¬ i = j → ¬ nI i = nI j := fun i j h1 h2 h h3 => h ((xn_eq (by omega) (by omega)).mp h3)
  have hk : k = 0 ∨ k = 1 ∨ k = 2 ∨ k = 3 ∨ k = 4 := by omega
  have l3 : ∀ i, i < 3 → nI i < nI 3 := fun i h => by rw [xn_lt (by omega) (by omega)]; exact h
  have l4 : ∀ i, i ≤ 5 → ¬ i < 3 → ¬ nI i < nI 3 := fun i h0 h => by rw [xn_lt (by omega) (by omega)]; exact h
  have c14 : ∀ {α : Type} (A B : α), cond (xr_in (nI 1) 4) A B = A := fun A B => by rw [xi_t (by omega) (by omega)]; rfl
  rcases hk with rfl | rfl | rfl | rfl | rfl
  · rw [if_pos (l3 0 (by omega)), c14]
    obtain ⟨M1, e1, Q1, K1, F1⟩ := wm1 (d := d) (w := w) (S := xs S M0) (c := 1) (hn := nq) (hi := nI nq - nI 1) (by omega) (hiM (by omega)) Y0 Q0
    rw [xs_xs] at e1
    rw [xm_xs] at K1
    have K1' := kV_tr K0 K1
    rw [e1, xr_cI_s, xm_xs, xs_xs, xh189_89, if_neg (ne 0 1 (by omega) (by omega) (by omega)), xh189_119, if_neg (ne 0 2 (by omega) (by omega) (by omega)), xh189_134, if_neg (ne 0 3 (by omega) (by omega) (by omega)), xh189_149, if_neg (ne 0 5 (by omega) (by omega) (by omega))]
    obtain ⟨M2, e2, K2, C2⟩ := tm221 (d := d) (w := w) (S := xs S (xw M1 X.1 1088 1 (nI (pNum tb n 0 nq (.inl (wend tb n b))).1))) (v1 := nI 0) (v := (wNum tb n np nq 0 (.inl (wend tb n b))).1) (tY_V K1' Y) Q1 (fun a' h => ⟨fun _ => by rw [xm_xs, xw_y (by omega)]; rfl, fun h => by omega, fun h => by omega, fun h => by omega⟩)
    rw [xs_xs] at e2
    rw [xm_xs] at K2
    exact ⟨M2, e2, kV_tr K1' K2, C2⟩
  · rw [if_pos (l3 1 (by omega)), c14]
    obtain ⟨M1, e1, Q1, K1, F1⟩ := wm1 (d := d) (w := w) (S := xs S M0) (c := 1) (hn := nq) (hi := nI nq - nI 1) (by omega) (hiM (by omega)) Y0 Q0
    rw [xs_xs] at e1
    rw [xm_xs] at K1
    have K1' := kV_tr K0 K1
    obtain ⟨M2, e2, Q2, K2, F2⟩ := wm1 (d := d) (w := w) (S := xs S (xw M1 X.1 1088 1 (nI (pNum tb n 0 nq (.inl (wend tb n b))).1))) (c := 2) (hn := 2) (hi := nI 1) (by omega) (hi9 (c := 1) (by omega)) (tY_V K1' Y) Q1
    rw [xs_xs] at e2
    rw [xm_xs] at K2 F2
    have K2' := kV_tr K1' K2
    obtain ⟨M3, e3, Q3, K3, F3⟩ := wm1 (d := d) (w := w) (S := xs S (xw M2 X.1 1088 2 (nI (pNum tb n 0 2 (pNum tb n 0 nq (.inl (wend tb n b))).2).1))) (c := 3) (hn := np) (hi := nI np - nI 1) (by omega) (hiM (by omega)) (tY_V K2' Y) Q2
    rw [xs_xs] at e3
    rw [xm_xs] at K3 F3
    have K3' := kV_tr K2' K3
    have g0 : xw M2 X.1 1088 2 (nI (pNum tb n 0 2 (pNum tb n 0 nq (.inl (wend tb n b))).2).1) 0 73 0 = nI np := by rw [K2'.1 0 73 (by omega) (by omega)]; exact p0
    rw [e1, xr_cI_s, xm_xs, xs_xs, xh189_89, if_pos rfl, e2, xr_cI_s]
    simp (disch := omega) only [xi_t, xn_k, cond_true, xm_xs, xs_xs, g0, e3, xr_cI_s]
    rw [xh189_119, if_neg (ne 1 2 (by omega) (by omega) (by omega)), xh189_134, if_neg (ne 1 3 (by omega) (by omega) (by omega)), xh189_149, if_neg (ne 1 5 (by omega) (by omega) (by omega))]
    obtain ⟨M4, e4, K4, C4⟩ := tm221 (d := d) (w := w) (S := xs S (xw M3 X.1 1088 3 (nI (pNum tb n 0 np (pNum tb n 0 2 (pNum tb n 0 nq (.inl (wend tb n b))).2).2).1))) (v1 := nI 1) (v := (wNum tb n np nq 1 (.inl (wend tb n b))).1) (tY_V K3' Y) Q3 (fun a' h => ⟨fun _ => by rw [xm_xs, F3 1 (by omega), F2 1 (by omega), xw_y (by omega)]; rfl, fun _ => by rw [xm_xs, F3 2 (by omega), xw_y (by omega)]; rfl, fun _ => by rw [xm_xs, xw_y (by omega)]; rfl, fun h => by omega⟩)
    rw [xs_xs] at e4
    rw [xm_xs] at K4
    exact ⟨M4, e4, kV_tr K3' K4, C4⟩
  · rw [if_pos (l3 2 (by omega)), c14]
    obtain ⟨M1, e1, Q1, K1, F1⟩ := wm1 (d := d) (w := w) (S := xs S M0) (c := 1) (hn := nq) (hi := nI nq - nI 1) (by omega) (hiM (by omega)) Y0 Q0
    rw [xs_xs] at e1
    rw [xm_xs] at K1
    have K1' := kV_tr K0 K1
    obtain ⟨M2, e2, Q2, K2, F2⟩ := wm1 (d := d) (w := w) (S := xs S (xw M1 X.1 1088 1 (nI (pNum tb n 0 nq (.inl (wend tb n b))).1))) (c := 2) (hn := 8) (hi := nI 7) (by omega) (hi9 (c := 7) (by omega)) (tY_V K1' Y) Q1
    rw [xs_xs] at e2
    rw [xm_xs] at K2 F2
    have K2' := kV_tr K1' K2
    rw [e1, xr_cI_s, xm_xs, xs_xs, xh189_89, if_neg (ne 2 1 (by omega) (by omega) (by omega)), xh189_119, if_pos rfl, e2, xr_cI_s]
    simp (disch := omega) only [xi_t, xn_k, cond_true, xm_xs, xs_xs]
    rw [xh189_134, if_neg (ne 2 3 (by omega) (by omega) (by omega)), xh189_149, if_neg (ne 2 5 (by omega) (by omega) (by omega))]
    obtain ⟨M4, e4, K4, C4⟩ := tm221 (d := d) (w := w) (S := xs S (xw M2 X.1 1088 2 (nI (pNum tb n 0 8 (pNum tb n 0 nq (.inl (wend tb n b))).2).1))) (v1 := nI 2) (v := (wNum tb n np nq 2 (.inl (wend tb n b))).1) (tY_V K2' Y) Q2 (fun a' h => ⟨fun _ => by rw [xm_xs, F2 1 (by omega), xw_y (by omega)]; rfl, fun _ => by rw [xm_xs, xw_y (by omega)]; rfl, fun h => by omega, fun h => by omega⟩)
    rw [xs_xs] at e4
    rw [xm_xs] at K4
    exact ⟨M4, e4, kV_tr K2' K4, C4⟩
  · rw [if_neg (l4 3 (by omega) (by omega))]
    obtain ⟨M1, e1, Q1, K1, F1⟩ := wm1 (d := d) (w := w) (S := xs S M0) (c := 2) (hn := 8) (hi := nI 7) (by omega) (hi9 (c := 7) (by omega)) Y0 Q0
    rw [xs_xs] at e1
    rw [xm_xs] at K1
    have K1' := kV_tr K0 K1
    rw [xh189_89, if_neg (ne 3 1 (by omega) (by omega) (by omega)), xh189_119, if_neg (ne 3 2 (by omega) (by omega) (by omega)), xh189_134, if_pos rfl, e1, xr_cI_s]
    simp (disch := omega) only [xi_t, xn_k, cond_true, xm_xs, xs_xs]
    rw [xh189_149, if_neg (ne 3 5 (by omega) (by omega) (by omega))]
    obtain ⟨M4, e4, K4, C4⟩ := tm221 (d := d) (w := w) (S := xs S (xw M1 X.1 1088 2 (nI (pNum tb n 0 8 (.inl (wend tb n b))).1))) (v1 := nI 3) (v := (wNum tb n np nq 3 (.inl (wend tb n b))).1) (tY_V K1' Y) Q1 (fun a' h => ⟨fun h => by omega, fun h => by omega, fun h => by omega, fun _ => by rw [xm_xs, xw_y (by omega)]; rfl⟩)
    rw [xs_xs] at e4
    rw [xm_xs] at K4
    exact ⟨M4, e4, kV_tr K1' K4, C4⟩
  · rw [if_neg (l4 4 (by omega) (by omega)), xh189_89, if_neg (ne 4 1 (by omega) (by omega) (by omega)), xh189_119, if_neg (ne 4 2 (by omega) (by omega) (by omega)), xh189_134, if_neg (ne 4 3 (by omega) (by omega) (by omega)), xh189_149, if_neg (ne 4 5 (by omega) (by omega) (by omega))]
    obtain ⟨M4, e4, K4, C4⟩ := tm221 (d := d) (w := w) (S := xs S M0) (v1 := nI 4) (v := (wNum tb n np nq 4 (.inl (wend tb n b))).1) Y0 Q0 (fun a' h => ⟨fun h => by omega, fun h => by omega, fun h => by omega, fun h => by omega⟩)
    rw [xs_xs] at e4
    rw [xm_xs] at K4
    exact ⟨M4, e4, kV_tr K0 K4, C4⟩
end
