/-! THE HILL'S TEXT: the model, 3: all clauses -/
section
variable {d : Nat} {w : List Nat} {tb : Nat → Nat} {n : Nat}
theorem tm173 {S : xr_S} {cl b : Nat} {Y : hY} (hcl : cl ≤ 60) (hb : sk tb n b = b) (I : hInv Y) (T : tY (xm S) tb n) (C : mHl (xm S) n cl (.inl b, Y)) : ∃ M, xr_Call (d + 8) 173 [xP 0 69] ([], w) S = some (.inl none, ([], w), xs S M) ∧ kX (xm S) M ∧ mHl M n (cl + 1) (hCl tb n cl b Y) := by
  obtain ⟨R, C2⟩ := C
  obtain ⟨c7, C3⟩ := C2 b rfl
  dsimp only at C3
  have R' := R
  obtain ⟨r5, r6, r4, rn⟩ := R
  obtain ⟨⟨i1, i2, _⟩, _⟩ := id I
  obtain ⟨⟨c0, c1, _⟩, _⟩ := id C3
  have pre : xr_Call (d + 8) 173 [xP 0 69] ([], w) S = _ := xh173_0 (d + 7) w S
  rw [show xr_Call (d + 7) 172 [xP 0 69] ([], w) S = _ from tm172 (d := d + 2) hb T R', xr_cI_s] at pre
  -- a fault of kind 3
  have three : ∀ v1 : Int32, ∃ M, xr_Run (d + 7) 173 62 [xP 0 69, xI v1, xU, xU] [] ([], w) S = some (.inl none, ([], w), xs S M) ∧ kX (xm S) M ∧ mHl M n (cl + 1) (.inr (3, b), Y) := by
    intro v1
    obtain ⟨M, q, K, R2, _⟩ := tm159 (d := d + 6) (w := w) (S := S) (k := 3) (p := b) (by omega) rn R'
    have R2 : rM M n (.inr (3, b)) := R2
    refine ⟨M, ?_, kM_X K, R2, fun a' ha => by cases ha⟩
    refine (xh173_62 _ _ _ _).trans ?_
    rw [r4, show xr_Call (d + 7) 159 [xP 0 69, xI (nI 3), xI (nI b)] ([], w) S = _ from q, xr_cV_s]
    refine (xh173_71 _ _ _ _).trans ?_
    rw [if_neg (show ¬ xm (xs S M) 0 69 5 = nI 0 from rM_5 R2)]
  unfold hCl
  cases hk : hKnd tb b (wend tb n b) with
  | none =>
    obtain ⟨M, q, K, R2, _⟩ := tm159 (d := d + 6) (w := w) (S := S) (k := 1) (p := b) (by omega) rn R'
    have R2 : rM M n (.inr (1, b)) := R2
    refine ⟨M, ?_, kM_X K, R2, fun a' ha => by cases ha⟩
    rw [hk, if_pos (show lKI none = -1 from rfl), r4, show xr_Call (d + 7) 159 [xP 0 69, xI (nI 1), xI (nI b)] ([], w) S = _ from q, xr_cV_s] at pre
    rw [pre]
    refine (xh173_71 _ _ _ _).trans ?_
    rw [if_neg (show ¬ xm (xs S M) 0 69 5 = nI 0 from rM_5 R2)]
  | some k =>
    have hk4 := hKnd_le hk
    have i0 : xr_in (nI 0) 4 = true := xi_t (by omega) (by omega)
    have i1' : xr_in (nI 1) 4 = true := xi_t (by omega) (by omega)
    have k0 : xk (nI 0) = 0 := xn_k (by omega)
    have k1 : xk (nI 1) = 1 := xn_k (by omega)
    rw [hk, if_neg (show ¬ lKI (some k) = -1 from fun h => (xn_m1 (show k < 2147483648 by omega)).mp h), c7, i0, i1', k0, k1, c0, c1, show lKI (some k) = nI k from rfl] at pre
    dsimp only
    have e60 : (nI cl = nI 60) = (cl = 60) := xn_eq (by omega) (by omega)
    have ek0 : (nI k = nI 0) = (k = 0) := xn_eq (by omega) (by omega)
    have ek1 : (nI k = nI 1) = (k = 1) := xn_eq (by omega) (by omega)
    have e80 : (nI Y.1.1 = nI 8) = (Y.1.1 = 8) := xn_eq (by omega) (by omega)
    have e81 : (nI Y.1.2.1 = nI 8) = (Y.1.2.1 = 8) := xn_eq (by omega) (by omega)
    have join : xr_Call (d + 8) 173 [xP 0 69] ([], w) S = if cl = 60 ∨ (k = 0 ∧ Y.1.1 = 8) ∨ (k = 1 ∧ Y.1.2.1 = 8) then xr_Run (d + 7) 173 62 [xP 0 69, xI (nI k), xU, xU] [] ([], w) S else xr_Run (d + 7) 173 71 [xP 0 69, xI (nI k), xU, xU] [] ([], w) S := by
      rw [pre]
      by_cases q1 : cl = 60
      · rw [if_pos (by rw [e60]; exact q1), if_pos (Or.inl q1)]
      · rw [if_neg (by rw [e60]; exact q1)]
        by_cases q2 : k = 0
        · rw [if_pos (by rw [ek0]; exact q2), cond_true]
          by_cases q3 : Y.1.1 = 8
          · rw [if_pos (by rw [e80]; exact q3), if_pos (Or.inr (Or.inl ⟨q2, q3⟩))]
          · rw [if_neg (by rw [e80]; exact q3), if_neg (by rw [ek1]; omega), if_neg (by omega)]
        · rw [if_neg (by rw [ek0]; exact q2)]
          by_cases q4 : k = 1
          · rw [if_pos (by rw [ek1]; exact q4), cond_true]
            by_cases q3 : Y.1.2.1 = 8
            · rw [if_pos (by rw [e81]; exact q3), if_pos (Or.inr (Or.inr ⟨q4, q3⟩))]
            · rw [if_neg (by rw [e81]; exact q3), if_neg (by omega)]
          · rw [if_neg (by rw [ek1]; exact q4), if_neg (by omega)]
    by_cases qf : cl = 60 ∨ (k = 0 ∧ Y.1.1 = 8) ∨ (k = 1 ∧ Y.1.2.1 = 8)
    · rw [if_pos qf] at join
      rw [if_pos qf]
      obtain ⟨M, q, K, H⟩ := three (nI k)
      exact ⟨M, join.trans q, K, H⟩
    · rw [if_neg qf] at join
      rw [if_neg qf]
      obtain ⟨q2, l1, l2⟩ := tm166 (d := d + 5) (w := w) (S := S) T R'
      obtain ⟨A, hA⟩ : ∃ A, A = xw (xw (xm S) 0 69 4 (nI (wend tb n b))) 0 69 7 (nI (cl + 1)) := ⟨_, rfl⟩
      have KA : kX (xm S) A := by
        rw [hA]
        exact ⟨fun b e g _ => by rw [xw_r (by omega), xw_r (by omega)], fun k g => by rw [xw_n (by omega), xw_n (by omega)]⟩
      have e7 : xw (xm S) 0 69 4 (nI (wend tb n b)) 0 69 7 = nI cl := by rw [xw_n (by omega)]; exact c7
      have e2 : xr_Run (d + 7) 173 71 [xP 0 69, xI (nI k), xU, xU] [] ([], w) S = xr_Run (d + 7) 173 94 [xP 0 69, xI (nI k), xU, xU] [xI (nI k)] ([], w) (xs S A) := by
        refine (xh173_71 _ _ _ _).trans ?_
        rw [if_pos r5, show xr_Call (d + 7) 166 [xP 0 69] ([], w) S = _ from q2, xr_cV_s, xm_xs, e7, xn_add, xs_xs, ← hA]
      have RA : rM A n (.inl (wend tb n b)) := ⟨by rw [hA, xw_n (by omega), xw_n (by omega)]; exact r5, by rw [hA, xw_n (by omega), xw_n (by omega)]; exact r6, by rw [hA, xw_n (by omega), xw_y (by omega)], l2⟩
      have CA : mPl A Y := by
        obtain ⟨d0, d4, d5, d6, d8⟩ := C3
        exact ⟨by rw [hA, xw_r (by omega), xw_r (by omega)]; exact d0, by rw [hA, xw_r (by omega), xw_r (by omega)]; exact d4, fun p hp => by rw [hA, xw_r (by omega), xw_r (by omega)]; exact d5 p hp, fun p i hp hi => by rw [hA, xw_r (by omega), xw_r (by omega)]; exact d6 p i hp hi, by rw [hA, xw_r (by omega), xw_r (by omega)]; exact d8⟩
      obtain ⟨M, q3, K3, H3⟩ := tm173r (d := d) (w := w) (S := xs S A) (k := k) (a := wend tb n b) (cl := cl + 1) (Y := Y) hk4 I ⟨fun g => qf (Or.inr (Or.inl g)), fun g => qf (Or.inr (Or.inr g))⟩ (tY_X KA T) RA (by rw [xm_xs, hA, xw_y (by omega)]) CA
      rw [xs_xs] at q3
      rw [xm_xs] at K3
      exact ⟨M, join.trans (e2.trans q3), kX_tr KA K3, H3⟩
theorem hItr_sk {cl b : Nat} {Y : hY} (m : Nat) : hItr tb n (m + 1) cl (.inl (sk tb n b), Y) = hItr tb n (m + 1) cl (.inl b, Y) := by
  unfold hItr
  rw [sk_sk]
theorem tm42L {v1 : Int32} : ∀ (m cl : Nat) (S : xr_S) (s : hS), m + cl = 61 → (∀ a, s.1 = .inl a → cl ≤ 60 ∧ sk tb n a = a ∧ hInv s.2) → tY (xm S) tb n → mHl (xm S) n cl s → ∃ M cl', xr_Run (d + 8) 175 42 [xP 0 69, xI v1] [] ([], w) S = xr_Run (d + 8) 175 42 [xP 0 69, xI v1] [] ([], w) (xs S M) ∧ kX (xm S) M ∧ mHl M n cl' (hItr tb n m cl s) ∧ ∀ a, (hItr tb n m cl s).1 = .inl a → ¬ a < n
  | m, cl, S, (.inr q, Y), hm, hh, T, C => by
    refine ⟨xm S, cl, by rw [xs_xm], kX_rf _, by rw [hItr_r]; exact C, ?_⟩
    rw [hItr_r]
    exact fun a h => by cases h
  | 0, cl, S, (.inl a, Y), hm, hh, T, C => by
    have := (hh a rfl).1
    omega
  | m + 1, cl, S, (.inl a, Y), hm, hh, T, C => by
    obtain ⟨h1, h2, I⟩ := hh a rfl
    dsimp only at I
    obtain ⟨⟨r5, r6, r4, rn⟩, _⟩ := id C
    have hn := T.1
    have ei : hItr tb n (m + 1) cl (.inl a, Y) = if sk tb n a < n then hItr tb n m (cl + 1) (hCl tb n cl (sk tb n a) Y) else (.inl (sk tb n a), Y) := rfl
    rw [h2] at ei
    have pre : xr_Run (d + 8) 175 42 [xP 0 69, xI v1] [] ([], w) S = _ := xg175_42 _ _ _ _
    rw [if_pos r5, r4, T.2.2.1] at pre
    by_cases qn : a < n
    rotate_left
    · refine ⟨xm S, cl, by rw [xs_xm], kX_rf _, ?_⟩
      rw [ei, if_neg qn]
      exact ⟨C, fun a' h => by cases h; exact qn⟩
    · rw [if_pos (show nI a < nI n by rw [xn_lt (by omega) (by omega)]; exact qn)] at pre
      rw [ei, if_pos qn]
      obtain ⟨M1, q1, K1, C1⟩ := tm173 (d := d) (w := w) h1 h2 I T C
      rw [show xr_Call (d + 8) 173 [xP 0 69] ([], w) S = _ from q1, xr_cV_s] at pre
      obtain ⟨M2, q2, K2, R2⟩ := tm158r (d := d + 6) (w := w) (S := xs S M1) (tY_X K1 T) C1.1
      rw [xs_xs] at q2
      rw [xm_xs] at K2
      rw [show xr_Call (d + 8) 158 [xP 0 69] ([], w) (xs S M1) = _ from q2, xr_cV_s] at pre
      have K12 := kX_tr K1 (kM_X K2)
      rcases hs : hCl tb n cl a Y with ⟨r1, Y1⟩
      rw [hs] at C1 R2
      cases r1 with
      | inr zz =>
        refine ⟨M2, cl + 1, pre, K12, ?_, ?_⟩
        · rw [hItr_r]; exact ⟨R2, fun a' h => by cases h⟩
        · rw [hItr_r]; exact fun a' h => by cases h
      | inl c =>
        have g := hCl_ok (tb := tb) (n := n) (cl := cl) (b := a) (a' := c) I (by rw [hs])
        have hl : cl < 60 := by
          rcases g with g | g
          · exact g.2
          · omega
        have I1 : hInv Y1 := by
          have := hCl_I (tb := tb) (n := n) (cl := cl) (b := a) (a' := c) I (by rw [hs])
          rw [hs] at this
          exact this
        obtain ⟨c7, C3⟩ := C1.2 c rfl
        have C2 : mHl (xm (xs S M2)) n (cl + 1) (.inl (sk tb n c), Y1) := ⟨R2, fun _ _ => ⟨by rw [xm_xs, K2.2 7 (by omega)]; exact c7, mPl_M K2 C3⟩⟩
        obtain ⟨M3, cl', q3, K3, C4, Z4⟩ := tm42L m (cl + 1) (xs S M2) (.inl (sk tb n c), Y1) (by omega) (fun a' ha => by cases ha; exact ⟨by omega, sk_sk _ _ _, I1⟩) (tY_X K12 T) C2
        rw [xs_xs] at q3
        rw [xm_xs] at K3
        obtain ⟨m', rfl⟩ : ∃ m', m = m' + 1 := ⟨m - 1, by omega⟩
        rw [hItr_sk] at C4 Z4
        exact ⟨M3, cl', pre.trans q3, kX_tr K12 K3, C4, Z4⟩
end
