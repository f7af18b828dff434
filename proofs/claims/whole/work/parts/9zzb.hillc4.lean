/-! THE HILL'S TEXT: the class, 4: the whole text -/
def cHl (M : xr_M) (n : Nat) (s : hS) : Prop := rC M n s.1 ∧ ∀ a, s.1 = .inl a → cPl M s.2
section
variable {d : Nat} {w : List Nat} {tb : Nat → Nat} {n : Nat}
theorem tc57L : ∀ (m cl : Nat) (S : xr_S) (s : hS), m + cl = 61 → tX (xm S) tb n → hInv s.2 → cHl (xm S) n s → ∃ M, xr_Run (d + 11) 57 38 [xP 0 44, xP 0 1, xI (nI cl)] [] ([], w) S = some (.inl none, ([], w), xs S M) ∧ cHl M n (hItr tb n m cl s) ∧ kH (xm S) M
  | 0, cl, S, s, hm, X, I, C => by
    refine ⟨xm S, ?_, C, kH_rf _⟩
    refine (xg57_38 _ _ _ _).trans ?_
    rw [if_pos (by rw [xn_lt (by omega) (by omega)]; omega), xs_xm]
  | m + 1, cl, S, (.inr q, Y), hm, X, I, C => by
    refine ⟨xm S, ?_, C, kH_rf _⟩
    refine (xg57_38 _ _ _ _).trans ?_
    rw [if_neg (by rw [xn_lt (by omega) (by omega)]; omega), show xr_Call (d + 11) 82 [xP 0 1] ([], w) S = _ from tc82 (d := d + 10) C.1, xr_cI_s, rso_r, if_pos rfl, xs_xm]
  | m + 1, cl, S, (.inl a, Y), hm, X, I, C => by
    have z : ¬ nI 1 = nI 0 := by decide
    obtain ⟨M1, v, b, q1, K1, R1, _, ev, _⟩ := tc84r (d := d + 10) (w := w) X C.1
    have ev := ev a rfl
    subst ev
    have R1 : rC M1 n (.inl (sk tb n a)) := R1
    have pre : xr_Run (d + 11) 57 38 [xP 0 44, xP 0 1, xI (nI cl)] [] ([], w) S = _ := xg57_38 _ _ _ _
    rw [if_neg (by rw [xn_lt (by omega) (by omega)]; omega), show xr_Call (d + 11) 82 [xP 0 1] ([], w) S = _ from tc82 (d := d + 10) C.1, xr_cI_s, rso_l, if_neg z, show xr_Call (d + 11) 84 [xP 0 1] ([], w) S = _ from q1, xr_cI_s] at pre
    have C1 : cPl M1 Y := cPl_C K1 (C.2 a rfl)
    have ei : hItr tb n (m + 1) cl (.inl a, Y) = if sk tb n a < n then hItr tb n m (cl + 1) (hCl tb n cl (sk tb n a) Y) else (.inl (sk tb n a), Y) := rfl
    rw [ei]
    by_cases qn : sk tb n a < n
    · have ne : ¬ tv tb n (sk tb n a) = -1 := by
        unfold tv
        rw [if_pos qn]
        have := X.2.1 (sk tb n a)
        exact fun h => (xn_m1 (show tb (sk tb n a) < 2147483648 by omega)).mp h
      rw [if_neg ne] at pre
      rw [if_pos qn]
      obtain ⟨M2, r, q2, R2, K2, hr, C2⟩ := tc58 (d := d + 1) (w := w) (S := xs S M1) (tb := tb) (n := n) (cl := cl) (b := sk tb n a) (Y := Y) (by omega) (sk_sk _ _ _) I (tX_k K1 X) R1 C1
      rw [xs_xs] at q2
      rw [xm_xs] at K2
      have X2 : tX (xm (xs S M2)) tb n := tX_H K2 (tX_k K1 X)
      obtain ⟨M3, q3, K3, R3⟩ := tc91 (d := d + 9) (w := w) (S := xs S M2) X2 R2 (c := 59) (by omega)
      rw [xs_xs] at q3
      rw [xm_xs] at K3
      rw [hr] at R3
      rw [show xr_Call (d + 11) 58 [xP 0 44, xP 0 1, xI (nI cl)] ([], w) (xs S M1) = _ from q2, xr_cV_s, show xr_Call (d + 11) 91 [xP 0 1, xI (nI 59)] ([], w) (xs S M2) = _ from q3, xr_cV_s, xn_add] at pre
      have K13 : kH (xm S) M3 := kH_tr (kC_H K1) (kH_tr K2 (kC_H K3))
      rcases hs : hCl tb n cl (sk tb n a) Y with ⟨r1, Y1⟩
      rw [hs] at R3 C2 hr
      cases r1 with
      | inr zz =>
        obtain ⟨M4, q4, C4, K4⟩ : ∃ M, xr_Run (d + 11) 57 38 [xP 0 44, xP 0 1, xI (nI (cl + 1))] [] ([], w) (xs S M3) = some (.inl none, ([], w), xs S M) ∧ cHl M n (.inr zz, Y1) ∧ kH M3 M := by
          refine ⟨M3, ?_, ⟨R3, fun a' ha => by cases ha⟩, kH_rf _⟩
          refine (xg57_38 _ _ _ _).trans ?_
          by_cases q60 : 60 < cl + 1
          · rw [if_pos (by rw [xn_lt (by omega) (by omega)]; exact q60)]
          · rw [if_neg (by rw [xn_lt (by omega) (by omega)]; exact q60), show xr_Call (d + 11) 82 [xP 0 1] ([], w) (xs S M3) = _ from tc82 (d := d + 10) (S := xs S M3) R3, xr_cI_s, rso_r, if_pos rfl]
        rw [hItr_r]
        exact ⟨M4, pre.trans q4, C4, kH_tr K13 K4⟩
      | inl c =>
        obtain ⟨a', ha', _⟩ := pSgn_nn hr
        have I1 : hInv Y1 := by
          have := hCl_I (tb := tb) (n := n) (cl := cl) (b := sk tb n a) (a' := c) I (by rw [hs])
          rw [hs] at this
          exact this
        obtain ⟨M4, q4, C4, K4⟩ := tc57L m (cl + 1) (xs S M3) (.inl c, Y1) (by omega) (tX_k K3 X2) I1 ⟨R3, fun _ _ => cPl_C K3 (C2 a' ha')⟩
        rw [xs_xs] at q4
        rw [xm_xs] at K4
        exact ⟨M4, pre.trans q4, C4, kH_tr K13 K4⟩
    · have ye : tv tb n (sk tb n a) = -1 := by unfold tv; rw [if_neg qn]
      rw [if_pos ye] at pre
      rw [if_neg qn]
      exact ⟨M1, pre, ⟨R1, fun _ _ => C1⟩, kC_H K1⟩
theorem tc57 {S : xr_S} (X : tX (xm S) tb n) (R : rC (xm S) n (.inl 0)) : ∃ M, xr_Call (d + 12) 57 [xP 0 44, xP 0 1] ([], w) S = some (.inl none, ([], w), xs S M) ∧ cHl M n (hAll tb n) ∧ kH (xm S) M := by
  obtain ⟨M0, hM0⟩ : ∃ M0, M0 = xw (xw (xw (xw (xm S) 0 44 0 (nI 0)) 0 44 1 (nI 0)) 0 44 2 (nI 2)) 0 44 3 (nI 2) := ⟨_, rfl⟩
  obtain ⟨M1, q1, e1, F1⟩ := cf51 (d := d + 10) (w := w) (S := xs S M0) (nI 0)
  rw [xs_xs] at q1
  rw [xm_xs] at F1
  obtain ⟨M2, q2, e2, F2⟩ := cf52 (d := d + 10) (w := w) (S := xs S M1) (nI 0)
  rw [xs_xs] at q2
  rw [xm_xs] at F2
  have F : ∀ b e, ¬ (b = 0 ∧ (e = 44 ∨ e = 51 ∨ e = 52)) → M2 b e = xm S b e := fun b e g => by rw [F2 b e (by omega), F1 b e (by omega), hM0, xw_r (by omega), xw_r (by omega), xw_r (by omega), xw_r (by omega)]
  have e44 : M2 0 44 = M0 0 44 := by rw [F2 0 44 (by omega), F1 0 44 (by omega)]
  have K2 : kH (xm S) M2 := ⟨fun b e g => F b e (by omega), fun k _ => by rw [F 0 1 (by omega)]⟩
  have C2 : cHl (xm (xs S M2)) n (.inl 0, hY0) := by
    refine ⟨rC_e (by rw [xm_xs, F 0 1 (by omega)]) R, fun _ _ => ⟨?_, (fun p hp => by cases hp), (fun p hp => by cases hp), (fun p i hp => by cases hp), fun j _ hj => ?_, fun x hx => e2 x hx⟩⟩
    · rw [xm_xs, e44, hM0]
      refine ⟨?_, ?_, ?_, xw_y (by omega)⟩
      · rw [xw_n (by omega), xw_n (by omega), xw_n (by omega), xw_y (by omega)]; rfl
      · rw [xw_n (by omega), xw_n (by omega), xw_y (by omega)]; rfl
      · rw [xw_n (by omega), xw_y (by omega)]; rfl
    · rw [xm_xs, F2 0 51 (by omega)]; exact e1 j hj
  obtain ⟨M3, q3, C3, K3⟩ := tc57L (d := d) (w := w) (tb := tb) (n := n) 61 0 (xs S M2) (.inl 0, hY0) rfl (tX_H K2 X) hInv_0 C2
  rw [xs_xs] at q3
  rw [xm_xs] at K3
  refine ⟨M3, ?_, C3, kH_tr K2 K3⟩
  rw [xe57 (d + 11), ← hM0, show xr_Call (d + 11) 280 [xP 0 51, xI (nI 0)] ([], w) (xs S M0) = _ from q1, xr_cV_s, show xr_Call (d + 11) 280 [xP 0 52, xI (nI 0)] ([], w) (xs S M1) = _ from q2, xr_cV_s]
  exact q3
end
