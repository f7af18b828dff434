/-! WORK: the public calls, model -/
section
variable {d : Nat} {w : List Nat} {S : xr_S} {tb : Nat → Nat} {n np nq : Nat}
/-- work's text read by the model -/
theorem tm213p (hn : n ≤ 150) (hp : np ≤ 8 ∧ nq ≤ 8) {L wk : Nat} (hL : n ≤ L) (B : tBm (xm S) tb L) (p0 : xm S 0 73 0 = nI np) (p1 : xm S 0 73 1 = nI nq) (hw : wk < 16) (e36 : xm S 0 69 36 = nI wk) : ∃ M, xr_Call (d + 60) 213 [xP 0 69, xI (nI n)] ([], w) S = xr_Run (d + 59) 213 72 [xP 0 69, xI (nI n)] [] ([], w) (xs S M) ∧ mWk M n 0 (fun _ => false) (wAll tb n np nq) ∧ (∀ a, (wAll tb n np nq).1 = .inl a → ¬ a < n) ∧ M 0 69 2 = nI n ∧ (M 0 69 0 = nI 0 ∧ M 0 69 1 = nI 0) ∧ (∀ b e, ¬ (b = 0 ∧ e = 69) → ¬ e = 1088 → M b e = xm S b e) ∧ ∀ k, ¬ (k ≤ 2 ∨ (4 ≤ k ∧ k ≤ 8) ∨ k = 30) → M 0 69 k = xm S 0 69 k := by
  obtain ⟨⟨B1, B2⟩, B4, B5⟩ := B
  obtain ⟨T, hT⟩ : ∃ T, T = xs S (xw (xm S) 0 69 0 (nI 0)) := ⟨_, rfl⟩
  have e0 : xm T 0 69 0 = nI 0 := by rw [hT, xm_xs, xw_y (by omega)]
  have hT2 : xm T = xw (xm S) 0 69 0 (nI 0) := by rw [hT, xm_xs]
  have hT3 : ∀ M, xs T M = xs S M := fun M => by rw [hT, xs_xs]
  obtain ⟨M1, q1, Y1, R1, ⟨f1, f7, f8⟩, F1, G1⟩ := tm170 (d := d + 56) (w := w) (S := T) (tb := tb) (n := n) (by omega) B2 (fun k hk => by rw [hT2, xw_n (by omega)]; exact B5 k (by omega))
  rw [hT3] at q1
  obtain ⟨M2, hM2⟩ : ∃ M2, M2 = xw M1 0 69 30 (nI 0) := ⟨_, rfl⟩
  have Y2 : tY (xm (xs S M2)) tb n := by
    rw [xm_xs, hM2]
    exact ⟨Y1.1, Y1.2.1, by rw [xw_n (by omega)]; exact Y1.2.2.1, fun k hk => by rw [xw_n (by omega)]; exact Y1.2.2.2 k hk⟩
  have C2 : mWk (xm (xs S M2)) n 0 (fun _ => false) (.inl (sk tb n 0), 0, (fun _ => (0, 0, 0, 0)), (fun _ => 0)) := by
    rw [xm_xs, hM2]
    exact ⟨rM_o R1 (by omega) _, fun _ _ => ⟨by rw [xw_n (by omega)]; exact f8, by rw [xw_y (by omega)], fun j hj => by dsimp only at hj; omega⟩⟩
  have c73 : M2 0 73 = xm S 0 73 := by rw [hM2, xw_r (by omega), F1 0 73 (by omega), hT2, xw_r (by omega)]
  obtain ⟨M3, q3, K3, C3, Z3⟩ := tm72L (d := d + 47) (kk := 9) (w := w) (tb := tb) (n := n) (np := np) (nq := nq) (o := 0) (op := fun _ => false) (F := wF tb n np nq 6) (v1 := nI n) (msF (by omega) hp 6 (Nat.le_refl _)) (wF_inv 6) (wF_mon 6) 150 (xs S M2) _ (fun a h => by cases h; exact ⟨by omega, sk_sk _ _ _, sk_le (Nat.zero_le _), Nat.zero_le _⟩) Y2 (by rw [xm_xs, c73]; exact p0) (by rw [xm_xs, c73]; exact p1) C2
  rw [xs_xs] at q3
  rw [xm_xs] at K3
  rw [show wItr tb n (wF tb n np nq 6) true 150 (.inl (sk tb n 0), 0, (fun _ => (0, 0, 0, 0)), (fun _ => 0)) = wAll tb n np nq from wItr_sk 149] at C3 Z3
  have b1 : xw (xm S) 0 69 0 (nI 0) 0 69 1 = nI L := by rw [xw_n (by omega)]; exact B4
  have b2 : ¬ nI 1 = nI 0 := by decide
  have b3 : ¬ nI 150 < nI n := by rw [xn_lt (by omega) (by omega)]; omega
  have b36 : ¬ xm T 0 69 36 = nI 16 := by rw [hT2, xw_n (by omega), e36, xn_eq (by omega) (by omega)]; omega
  refine ⟨M3, ?_, C3, Z3, ?_, ⟨?_, ?_⟩, fun b e g1 g2 => ?_, fun k hk => ?_⟩
  · rw [xe213, ← hT, b1, show xr_Call (d + 59) 152 [xI (nI n), xI (nI 0), xI (nI L)] ([], w) T = _ from qm152y (Nat.zero_le n) hL (by omega), xr_cI_s, if_neg b2, if_neg b3, show xr_Call (d + 59) 151 [xP 0 69, xI (nI 0), xI (nI 1), xI (nI 1)] ([], w) T = _ from qm151f _ _ e0, xr_cI_s, if_pos rfl, if_neg b36, show xr_Call (d + 59) 170 [xP 0 69, xI (nI n)] ([], w) T = _ from q1, xr_cV_s, xm_xs, xs_xs, ← hM2]
    exact q3
  · rw [K3.2 2 (by omega), hM2, xw_n (by omega)]; exact Y1.2.2.1
  · rw [K3.2 0 (by omega), hM2, xw_n (by omega), G1 0 (by omega)]; exact e0
  · rw [K3.2 1 (by omega), hM2, xw_n (by omega)]; exact f1
  · rw [K3.1 b e g1 g2, hM2, xw_r g1, F1 b e g1, hT2, xw_r g1]
  · rw [K3.2 k (by omega), hM2, xw_n (by omega), G1 k (by omega), hT2, xw_n (by omega)]
/-- refused -/
theorem work_no {S : xr_S} {L : Nat} (B : tB (xm S) tb L) {a : Int32} (h : ¬ xrg a 0 (min L 150)) : qNo d 103 213 [xI a] S xIA 1 18 1 := by
  obtain ⟨⟨B1, B2⟩, ⟨B3, _⟩, B4, _⟩ := B
  refine qNo_of (nI 0) (by omega) ?_ (fun T hT => ?_)
  · refine (xv103_0 (d := d + 59)).trans ?_
    rw [xmn (by omega) (by omega) B3, show xr_Call (d + 59) 141 [xP 0 0, xI a, xI (nI 0), xI (nI (min L 150))] xMd S = _ from qc141n (by omega) (by omega) h, xr_cV_e]
  · have e0 : xm (xs T (xw (xm T) 0 69 0 (nI 0))) 0 69 0 = nI 0 := (by rw [xm_xs, xw_y (by omega)])
    have b1 : xw (xm T) 0 69 0 (nI 0) 0 69 1 = nI L := by rw [xw_n (by omega), hT, xw_n (by omega)]; exact B4
    have b2 : ¬ nI 1 = nI 0 := by rw [xn_eq (by omega) (by omega)]; omega
    have b4 := qm151t (d := d + 58) (w := [35, 44, 53, 58, 63, 66]) (t := 1) (r := 1) (by omega) (by omega) (by omega) e0
    rw [xe213, b1]
    by_cases q : xrg a 0 L
    · obtain ⟨k, _, hk, rfl⟩ := q
      have b3 : nI 150 < nI k := by
        rw [xn_lt (by omega) (by omega)]
        refine Nat.lt_of_not_le (fun h2 => h ⟨k, by omega, by omega, rfl⟩)
      rw [show xr_Call (d + 59) 152 [xI (nI k), xI (nI 0), xI (nI L)] xMd (xs T (xw (xm T) 0 69 0 (nI 0))) = _ from qm152y (Nat.zero_le k) hk (by omega), xr_cI_s, if_neg b2, if_pos b3, show xr_Call (d + 59) 151 [xP 0 69, xI (nI 1), xI (nI 1), xI (nI 1)] xMd (xs T (xw (xm T) 0 69 0 (nI 0))) = _ from b4, xr_cI_s, if_neg b2, xs_xs, xm_xs]
    · rw [show xr_Call (d + 59) 152 [xI a, xI (nI 0), xI (nI L)] xMd (xs T (xw (xm T) 0 69 0 (nI 0))) = _ from qm152n (by omega) (by omega) q, xr_cI_s, if_pos rfl, show xr_Call (d + 59) 151 [xP 0 69, xI (nI 1), xI (nI 1), xI (nI 1)] xMd (xs T (xw (xm T) 0 69 0 (nI 0))) = _ from b4, xr_cI_s, if_neg b2, xs_xs, xm_xs]
end
/-! WORK: the public calls, class up to the text's end -/
section
variable {d : Nat} {tb : Nat → Nat} {n np nq : Nat} {a k N : Nat} {nx : xr_A} {pa : Option Nat} {M : xr_M} {D : xr_D}
theorem tc103p (hn : n ≤ 150) (hp : np ≤ 8 ∧ nq ≤ 8) {L wk : Nat} (hL : n ≤ L) (B : tB M tb L) (p0 : M 0 35 0 = nI np) (p1 : M 0 35 1 = nI nq) (hw : wk < 16) {pl : Nat → Nat} {R : Nat → Nat → Int32} (C : chn N M D np nq pl wk pa R) : ∃ M1, xr_Call (d + 60) 103 [xP 0 0, xI (nI n)] xMd (a, k, nx, pa, M, D) = (match (wAll tb n np nq).1 with | .inl _ => xr_Run (d + 59) 103 99 [xP 0 0, xI (nI n)] [] xMd (a, k, nx, pa, M1, D) | .inr q => some (.inl (some (tRes (.inr q))), xMd, (a, k, nx, pa, M1, D))) ∧ cWk M1 n (wAll tb n np nq) ∧ (M1 0 1 1 = nI 0 ∧ M1 0 0 15 = tPlc (wAll tb n np nq).1) ∧ (∀ b e, ¬ (b = 0 ∧ (e = 0 ∨ e = 1 ∨ (21 ≤ e ∧ e ≤ 26))) → M1 b e = M b e) ∧ ∀ k, ¬ k = 15 → M1 0 0 k = M 0 0 k := by
  obtain ⟨⟨B1, B2⟩, ⟨B3, B5⟩, _⟩ := B
  obtain ⟨M1, q1, X1, R1, f1, F1, f0⟩ := tc81 (d := d + 58) (w := [35, 44, 53, 58, 63, 66]) (S := (a, k, nx, pa, M, D)) (tb := tb) (n := n) (by omega) B2 (fun k hk => B5 k (by omega))
  have F1 : ∀ b e, ¬ (b = 0 ∧ e = 1) → M1 b e = M b e := F1
  obtain ⟨M2, q2, K2, C2⟩ := tc75 (d := d + 39) (w := [35, 44, 53, 58, 63, 66]) (tb := tb) (n := n) (np := np) (nq := nq) (S := (a, k, nx, pa, M1, D)) (by omega) hp X1 (by show M1 0 35 0 = _; rw [F1 0 35 (by omega)]; exact p0) (by show M1 0 35 1 = _; rw [F1 0 35 (by omega)]; exact p1) R1
  have K2 : kW M1 M2 := K2
  obtain ⟨r6, ra, rb⟩ := rC_res C2.1
  obtain ⟨M3, hM3⟩ : ∃ M3, M3 = xw M2 0 0 15 (M2 0 1 6) := ⟨_, rfl⟩
  have E : ∀ b e, ¬ (b = 0 ∧ e = 0) → M3 b e = M2 b e := fun b e h => by rw [hM3, xw_r h]
  have C3 : cWk M3 n (wAll tb n np nq) := by
    obtain ⟨c1, c2, c3⟩ := C2
    refine ⟨?_, ?_, fun a ha => ?_⟩
    · unfold rC at c1 ⊢
      rw [E 0 1 (by omega)]
      exact c1
    · rw [E 0 21 (by omega)]; exact c2
    · obtain ⟨c4, c5⟩ := c3 a ha
      refine ⟨by rw [E 0 21 (by omega)]; exact c4, fun j hj => ?_⟩
      unfold cRw
      rw [E 0 22 (by omega), E 0 23 (by omega), E 0 24 (by omega), E 0 25 (by omega), E 0 26 (by omega)]
      exact c5 j hj
  have pre : xr_Call (d + 60) 103 [xP 0 0, xI (nI n)] xMd (a, k, nx, pa, M, D) = _ := xv103_0 (d := d + 59)
  rw [xmn (M := xm (a, k, nx, pa, M, D)) (by omega) (by omega) B3, show xr_Call (d + 59) 141 [xP 0 0, xI (nI n), xI (nI 0), xI (nI (min L 150))] xMd (a, k, nx, pa, M, D) = _ from qc141y (Nat.zero_le n) (by omega) (by omega), xr_cV_s, show xr_Call (d + 59) 142 [xP 0 0] xMd (a, k, nx, pa, M, D) = _ from c142 (d := d + 58) (S := (a, k, nx, pa, M, D)) C, xr_cI_s, if_pos (by rw [xn_lt (by omega) (by omega)]; exact hw), xv103_44, show xr_Call (d + 59) 81 [xP 0 1, xI (nI n)] xMd (a, k, nx, pa, M, D) = _ from q1, xr_cV_s, show xr_Call (d + 59) 75 [xP 0 21, xP 0 1, xP 0 35] xMd (xs (a, k, nx, pa, M, D) M1) = _ from q2, xr_cV_s] at pre
  have t1 : xs (xs (a, k, nx, pa, M1, D) M2) (xw (xm (xs (a, k, nx, pa, M1, D) M2)) 0 0 15 (xm (xs (a, k, nx, pa, M1, D) M2) 0 1 6)) = (a, k, nx, pa, M3, D) := by rw [hM3]; rfl
  rw [t1, xe82] at pre
  refine ⟨M3, ?_, C3, ⟨?_, ?_⟩, fun b e h => ?_, fun k hk => ?_⟩
  · rw [pre]
    have e15 : xm (a, k, nx, pa, M3, D) 0 1 5 = M2 0 1 5 := by show M3 0 1 5 = _; rw [E 0 1 (by omega)]
    cases he : (wAll tb n np nq).1 with
    | inl x => rw [e15, if_pos (ra x he), xr_cI_s, if_neg (by decide)]
    | inr q => rw [e15, if_neg (rb q he).1, xr_cI_s, if_pos rfl, e15, (rb q he).2, he]
  · rw [E 0 1 (by omega), K2.2 1 (by omega)]; exact f1
  · rw [hM3, xw_y (by omega)]; exact r6
  · rw [E b e (by omega), K2.1 b e (by omega), F1 b e (by omega)]
  · rw [hM3, xw_n (by omega), K2.1 0 0 (by omega), F1 0 0 (by omega)]
end
