/-! THE THUMB: the public call, class -/
abbrev xMt : xr_N := ([], [35, 44, 53, 58, 66, 63])
def uAll (tb : Nat → Nat) (n : Nat) : uS := uItr tb n 60 (.inl 0, 0, (fun _ => 0), (fun _ => none))
def uRes (s : uS) : Int32 := match s.1 with
  | .inl _ => nI s.2.1
  | .inr q => tRes (.inr q)
section
variable {d : Nat} {w : List Nat} {S : xr_S} {tb : Nat → Nat} {n : Nat}
theorem tc93_66 : ∃ M, xr_Call (d + 2) 93 [xP 0 66] ([], w) S = some (.inl none, ([], w), xs S M) ∧ (∀ b e, ¬ (b = 0 ∧ (e = 66 ∨ e = 67)) → M b e = xm S b e) ∧ M 0 66 2 = nI 0 ∧ ∀ i, i < 6 → M 0 67 i = -1 := by
  refine ⟨xw (xfl (xm S) 0 67 6 (-1)) 0 66 2 (nI 0), ?_, fun b e h => ?_, xw_y (by omega), fun i hi => ?_⟩
  · rw [xe93 _ _ _ 66 (Or.inr rfl), fl280_67, xr_cV_s, xm_xs, xs_xs]
  · rw [xw_r (by omega), xfl_r (by omega)]
  · rw [xw_n (by omega)]; exact xfl_y hi
theorem tc94 (T : tX (xm S) tb n) (R : rC (xm S) n (.inl 0)) : ∃ M, xr_Call (d + 3) 94 [xP 0 66, xP 0 1] ([], w) S = some (.inl none, ([], w), xs S M) ∧ kT (xm S) M ∧ cTh M n (uAll tb n) := by
  obtain ⟨M1, q1, F1, f2, f3⟩ := tc93_66 (d := d) (w := w) (S := S)
  have K1 : kT (xm S) M1 := ⟨fun b e h => F1 b e (by omega), fun k _ => by rw [F1 0 1 (by omega)]⟩
  have C1 : cTh (xm (xs S M1)) n (.inl 0, 0, (fun _ => 0), (fun _ => none)) := by
    refine ⟨?_, fun _ _ => ⟨f2, fun i hi => f3 i hi⟩⟩
    rw [xm_xs]
    unfold rC at R ⊢
    rw [F1 0 1 (by omega)]
    exact R
  obtain ⟨M2, q2, K2, C2⟩ := tc94L (d := d) (w := w) (tb := tb) 60 (xs S M1) _ 0 xU xU (by omega) (Nat.le_refl _) (fun i v _ h => by cases h) (tX_T K1 T) C1
  rw [xs_xs] at q2
  rw [xm_xs] at K2
  exact ⟨M2, by rw [xe94, q1, xr_cV_s]; exact q2, kT_tr K1 K2, C2⟩
theorem tc104y (hn : n ≤ 60) {L : Nat} (hL : n ≤ L) (B : tB (xm S) tb L) : ∃ M, xr_Call (d + 60) 104 [xP 0 0, xI (nI n)] xMd S = some (.inl (some (uRes (uAll tb n))), tMo (uAll tb n).1 xMt, xs S M) ∧ (M 0 1 1 = nI 0 ∧ M 0 1 0 = xm S 0 1 0 ∧ M 0 0 15 = tPlc (uAll tb n).1) ∧ (∀ b e, ¬ (b = 0 ∧ (e = 0 ∨ e = 1 ∨ e = 66 ∨ e = 67)) → M b e = xm S b e) ∧ (∀ k, ¬ k = 15 → M 0 0 k = xm S 0 0 k) ∧ cTh M n (uAll tb n) := by
  obtain ⟨⟨B1, B2⟩, ⟨B3, B5⟩, _⟩ := B
  obtain ⟨M1, q1, X1, R1, f1, F1, f0⟩ := tc81 (d := d + 58) (w := [35, 44, 53, 58, 63, 66]) (S := S) (tb := tb) (n := n) (by omega) B2 (fun k hk => B5 k (by omega))
  obtain ⟨M2, q2, K2, C2⟩ := tc94 (d := d + 56) (w := [35, 44, 53, 58, 63, 66]) (tb := tb) (n := n) (S := xs S M1) X1 R1
  rw [xs_xs] at q2
  rw [xm_xs] at K2
  obtain ⟨r6, ra, rb⟩ := rC_res C2.1
  have E : ∀ b e, ¬ (b = 0 ∧ e = 0) → xw M2 0 0 15 (M2 0 1 6) b e = M2 b e := fun b e h => by rw [xw_r h]
  have C3 : cTh (xw M2 0 0 15 (M2 0 1 6)) n (uAll tb n) := by
    obtain ⟨c1, c2⟩ := C2
    refine ⟨?_, ?_⟩
    · unfold rC at c1 ⊢
      rw [E 0 1 (by omega)]
      exact c1
    · rw [E 0 66 (by omega), E 0 67 (by omega)]; exact c2
  have pre : xr_Call (d + 60) 104 [xP 0 0, xI (nI n)] xMd S = (xr_cI xMd (xr_Call (d + 59) 82 [xP 0 1] xMd (xs S (xw M2 0 0 15 (M2 0 1 6)))) (fun x5 S4 => (if x5 = nI 0 then (some (.inl (some (((xm S4) 0 1 5) - nI 10)), xMd, S4)) else (some (.inl (some ((xm S4) 0 66 2)), xMt, S4))))) := by
    rw [xe104, xmn (by omega) (by omega) B3, show xr_Call (d + 59) 141 [xP 0 0, xI (nI n), xI (nI 0), xI (nI (min L 60))] xMd S = _ from qc141y (Nat.zero_le n) (by omega) (by omega), xr_cV_s, show xr_Call (d + 59) 81 [xP 0 1, xI (nI n)] xMd S = _ from q1, xr_cV_s, show xr_Call (d + 59) 94 [xP 0 66, xP 0 1] xMd (xs S M1) = _ from q2, xr_cV_s, xm_xs, xs_xs]
  refine ⟨xw M2 0 0 15 (M2 0 1 6), ?_, ⟨?_, ?_, ?_⟩, fun b e h => ?_, fun k hk => ?_, C3⟩
  · rw [pre, xe82, xm_xs, E 0 1 (by omega)]
    unfold uRes
    cases he : (uAll tb n).1 with
    | inl a =>
      rw [if_pos (ra a he), xr_cI_s, if_neg (by rw [xn_eq (by omega) (by omega)]; omega), xm_xs, (C3.2 a he).1]; rfl
    | inr q =>
      rw [if_neg (rb q he).1, xr_cI_s, if_pos rfl, xm_xs, E 0 1 (by omega), (rb q he).2, he]; rfl
  · rw [E 0 1 (by omega), K2.2 1 (by omega)]; exact f1
  · rw [E 0 1 (by omega), K2.2 0 (by omega)]; exact f0
  · rw [xw_y (by omega)]; exact r6
  · rw [E b e (by omega), K2.1 b e (by omega), F1 b e (by omega)]
  · rw [xw_n (by omega), K2.1 0 0 (by omega), F1 0 0 (by omega)]
end
