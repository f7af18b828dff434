/-! THE WORK'S TEXT: the class, 4 -/
section
variable {w : List Nat} {tb : Nat → Nat} {n np nq : Nat} {sr : wS → wS}
theorem tc76L {d kk lv : Nat} {full : Bool} (hn : n ≤ 600) (hp : np ≤ 8 ∧ nq ≤ 8) (hl : lv ≤ 6) (hf : full = decide (¬ lv < 6)) (hs : full = false → ∀ s, wInv n s → wInv n (sr s)) (HS : full = false → CW w tb n np nq (kk + 5) (lv + 1) sr) : ∀ (m : Nat) (S : xr_S) (s : wS) (v5 : Nat) (v6 : xr_V), v5 + m = 150 → tX (xm S) tb n → xm S 0 35 0 = nI np → xm S 0 35 1 = nI nq → cWk (xm S) n s → wInv n s → ∃ M, xr_Run (d + kk + 6) 76 15 [xP 0 21, xP 0 1, xP 0 35, xI (nI lv), xI (if lv = 0 then -1 else nI 93), xI (nI v5), v6] [] ([], w) S = some (.inl none, ([], w), xs S M) ∧ kW (xm S) M ∧ cWk M n (wItr tb n (wStp tb n np nq full sr) (decide (lv = 0)) m s)
  | 0, S, s, v5, v6, hv, T, p0, p1, C, I => by
    refine ⟨xm S, ?_, kW_rf _, C⟩
    refine (xg76_15 _ _ _ _ _ _ _).trans ?_
    rw [if_neg (by rw [xn_lt (by omega) (by omega)]; omega), xs_xm]
  | m + 1, S, (.inr q, X), v5, v6, hv, T, p0, p1, C, I => by
    refine ⟨xm S, ?_, kW_rf _, C⟩
    refine (xg76_15 _ _ _ _ _ _ _).trans ?_
    rw [if_pos (by rw [xn_lt (by omega) (by omega)]; omega), tc82 (r := .inr q) C.1, xr_cI_s, if_pos (show rso (.inr q) = nI 0 from rfl), xs_xm]
  | m + 1, S, (.inl a, X), v5, v6, hv, T, p0, p1, C, I => by
    have n1 : ¬ nI 1 = nI 0 := by rw [xn_eq (by omega) (by omega)]; omega
    obtain ⟨i1, i2⟩ := I a rfl
    dsimp only at i2
    obtain ⟨M1, v, b0, q1, K1, R1, _, ev, _⟩ := tc84r (d := d + kk + 5) (w := w) T C.1
    have ev := ev a rfl
    have R1 : rC M1 n (.inl (sk tb n a)) := R1
    obtain ⟨b, hb⟩ : ∃ b, b = sk tb n a := ⟨_, rfl⟩
    have hbb : sk tb n b = b := by rw [hb, sk_sk]
    have hba := sk_ge tb n a
    have hbn := sk_le (tb := tb) i1
    rw [← hb] at R1 ev hba hbn
    have T1 : tX (xm (xs S M1)) tb n := tX_W (kC_W K1) T
    have C1 : cWk M1 n (.inl b, X) := cWk_r C K1 R1 (fun _ _ => ⟨a, rfl⟩)
    have ei : wItr tb n (wStp tb n np nq full sr) (decide (lv = 0)) (m + 1) (.inl a, X) = if wStop (decide (lv = 0)) tb n b = true then (.inl b, X) else wItr tb n (wStp tb n np nq full sr) (decide (lv = 0)) m (wStp tb n np nq full sr b X) := by rw [hb]; rfl
    have es : (v = (if lv = 0 then -1 else nI 93)) ↔ wStop (decide (lv = 0)) tb n b = true := by
      rw [ev]
      unfold wStop
      by_cases q : lv = 0
      · rw [if_pos q, if_pos (decide_eq_true q), decide_eq_true_iff]
        unfold tv
        by_cases q2 : b < n
        · rw [if_pos q2]
          have := T.2.1 b
          exact ⟨fun h => absurd h (fun h => (xn_m1 (show tb b < 2147483648 by omega)).mp h), fun h => absurd q2 h⟩
        · rw [if_neg q2]; exact ⟨fun _ => q2, fun _ => rfl⟩
      · rw [if_neg q, if_neg (by rw [decide_eq_true_iff]; exact q), decide_eq_true_iff, tv_eq T.2.1 (by omega)]
    have pre : xr_Run (d + kk + 6) 76 15 [xP 0 21, xP 0 1, xP 0 35, xI (nI lv), xI (if lv = 0 then -1 else nI 93), xI (nI v5), v6] [] ([], w) S = _ := xg76_15 _ _ _ _ _ _ _
    rw [if_pos (show nI v5 < nI 150 by rw [xn_lt (by omega) (by omega)]; omega), tc82 (r := .inl a) C.1, xr_cI_s, if_neg (show ¬ rso (.inl a) = nI 0 from n1), q1, xr_cI_s] at pre
    rw [pre]
    by_cases hst : wStop (decide (lv = 0)) tb n b = true
    · rw [if_pos (es.mpr hst), ei, if_pos hst]
      exact ⟨M1, rfl, kC_W K1, C1⟩
    · rw [if_neg (fun h => hst (es.mp h)), ei, if_neg hst]
      obtain ⟨M2, b2, e, q2, K2, R2, e4, e3, hbe, h88, _⟩ := tc88 (d := d + kk + 4) (w := w) (S := xs S M1) T1 R1
      obtain ⟨rfl, rfl⟩ := h88 b rfl
      rw [hbb] at e4 e3 hbe
      rw [xs_xs] at q2
      rw [xm_xs] at K2
      have R2 : rC M2 n (.inl (wend tb n b)) := by
        have h2 : rC M2 n (.inl (wend tb n (sk tb n b))) := R2
        rw [hbb] at h2
        exact h2
      have K2' := kW_tr (kC_W K1) (kC_W K2)
      have T2 : tX (xm (xs S M2)) tb n := tX_W K2' T
      have C2 : cWk (xm (xs S M2)) n (.inl (wend tb n b), X) := cWk_r C1 K2 R2 (fun _ _ => ⟨b, rfl⟩)
      have q3 := tc78 (d := d + kk) (w := w) (S := xs S M2) T2 e4 e3 hbe
      rw [q2, xr_cV_s, q3, xr_cI_s]
      have hX : X.1 < 150 := by omega
      have hsz : xm (xs S M2) 0 21 5 = nI X.1 := (C2.2.2 _ rfl).1
      have l150 : nI X.1 < nI 150 := by rw [xn_lt (by omega) (by omega)]; exact hX
      have pp0 : ∀ M, kW (xm S) M → M 0 35 0 = nI np := fun M K => by rw [K.1 0 35 (by omega)]; exact p0
      have pp1 : ∀ M, kW (xm S) M → M 0 35 1 = nI nq := fun M K => by rw [K.1 0 35 (by omega)]; exact p1
      have fin : ∀ (M3 : xr_M) (r3 : tR) (X3 : wX) (x7 : Int32), kW (xm S) M3 → cWk M3 n (r3, X3) → wStp tb n np nq full sr b X = (pSgn tb n 59 r3, X3) → ∃ M, (xr_cV ([], w) (xr_Call (d + kk + 6) 91 [xP 0 1, xI (nI 59)] ([], w) (xs S M3)) (fun S9 => (xr_Run (d + kk + 6) 76 15 [xP 0 21, xP 0 1, xP 0 35, xI (nI lv), xI (if lv = 0 then -1 else nI 93), xI (nI v5 + nI 1), xI x7] [] ([], w) S9))) = some (.inl none, ([], w), xs S M) ∧ kW (xm S) M ∧ cWk M n (wItr tb n (wStp tb n np nq full sr) (decide (lv = 0)) m (wStp tb n np nq full sr b X)) := by
        intro M3 r3 X3 x7 K3 C3 hw
        obtain ⟨M4, q4, K4, R4⟩ := tc91 (d := d + kk + 4) (w := w) (S := xs S M3) (tX_W K3 T) C3.1 (c := 59) (by omega)
        rw [xs_xs] at q4
        rw [xm_xs] at K4
        have C4 : cWk M4 n (pSgn tb n 59 r3, X3) := cWk_r C3 K4 R4 (fun a' h => by obtain ⟨c, hc, _⟩ := pSgn_nn h; exact ⟨c, hc⟩)
        have K4' := kW_tr K3 (kC_W K4)
        rw [← hw] at C4
        obtain ⟨M5, q5, K5, C5⟩ := tc76L hn hp hl hf hs HS m (xs S M4) (wStp tb n np nq full sr b X) (v5 + 1) (xI x7) (by omega) (tX_W K4' T) (pp0 M4 K4') (pp1 M4 K4') C4 (wStp_inv hs hbn (by omega))
        rw [xs_xs] at q5
        rw [xm_xs] at K5
        refine ⟨M5, ?_, kW_tr K4' K5, C5⟩
        rw [q4, xr_cV_s, xn_add v5 1]
        exact q5
      cases hk : wKnd tb b (wend tb n b) with
      | none =>
        rw [if_pos (show lKI none = -1 from rfl), show xm (xs S M2) 0 1 4 = nI b from e4]
        obtain ⟨M3, q5, K3, R3, _⟩ := tc83 (d := d + kk + 5) (w := w) (S := xs S M2) (k := 1) (p := b) (by omega) (by omega) R2
        rw [xs_xs] at q5
        rw [xm_xs] at K3
        rw [q5, xr_cV_s]
        exact fin M3 (.inr (1, b)) X (-1) (kW_tr K2' (kC_W K3)) (cWk_r C2 K3 R3 (fun _ h => nomatch h)) (by unfold wStp; rw [hk]; rfl)
      | some k =>
        have hk5 := wKnd_le hk
        obtain ⟨l1, l2, l3⟩ := wKnd_len hk
        rw [if_neg (show ¬ lKI (some k) = -1 from fun h => (xn_m1 (show k < 2147483648 by omega)).mp h)]
        by_cases k5 : k = 5
        · subst k5
          rw [if_pos (show lKI (some 5) = nI 5 from rfl)]
          by_cases h6 : lv < 6
          · have hff : full = false := by rw [hf]; exact decide_eq_false (by omega)
            rw [if_pos (show nI lv < nI 6 by rw [xn_lt (by omega) (by omega)]; exact h6), hsz, if_pos l150]
            obtain ⟨M3, q5, K3, C3⟩ := tc77g (d := d) (kk := kk + 3) (w := w) (S := xs S M2) (a := wend tb n b) (lv := lv) hX hbe.2 (by have := l3 rfl; omega) (pp0 M2 K2') (pp1 M2 K2') (HS hff) T2 C2
            rw [xs_xs] at q5
            rw [xm_xs] at K3
            rw [show xr_Call (d + kk + 6) 77 [xP 0 21, xP 0 1, xP 0 35, xI (lKI (some 5)), xI (nI lv)] ([], w) (xs S M2) = _ from q5, xr_cV_s]
            exact fin M3 _ _ (nI 5) (kW_tr K2' K3) C3 (by unfold wStp; rw [hk]; unfold wKin; dsimp only; rw [if_pos rfl, if_neg (by rw [hff]; decide)])
          · have hff : full = true := by rw [hf]; exact decide_eq_true h6
            rw [if_neg (show ¬ nI lv < nI 6 by rw [xn_lt (by omega) (by omega)]; exact h6), show xm (xs S M2) 0 1 4 = nI b from e4]
            obtain ⟨M3, q5, K3, R3, _⟩ := tc83 (d := d + kk + 5) (w := w) (S := xs S M2) (k := 3) (p := b) (by omega) (by omega) R2
            rw [xs_xs] at q5
            rw [xm_xs] at K3
            rw [q5, xr_cV_s]
            exact fin M3 (.inr (3, b)) X (nI 5) (kW_tr K2' (kC_W K3)) (cWk_r C2 K3 R3 (fun _ h => nomatch h)) (by unfold wStp; rw [hk]; unfold wKin; dsimp only; rw [if_pos rfl, if_pos hff]; rfl)
        · rw [if_neg (show ¬ lKI (some k) = nI 5 from fun h => k5 ((xn_eq (show k < 2147483648 by omega) (show 5 < 2147483648 by omega)).mp h)), hsz, if_pos l150]
          obtain ⟨M3, q5, K3, C3⟩ := tc77 (d := d + kk + 3) (w := w) (S := xs S M2) (a := wend tb n b) (v4 := nI lv) (k := k) (by omega) hX hp (pp0 M2 K2') (pp1 M2 K2') T2 C2
          rw [xs_xs] at q5
          rw [xm_xs] at K3
          rw [show xr_Call (d + kk + 6) 77 [xP 0 21, xP 0 1, xP 0 35, xI (lKI (some k)), xI (nI lv)] ([], w) (xs S M2) = _ from q5, xr_cV_s]
          exact fin M3 _ _ (nI k) (kW_tr K2' K3) C3 (by unfold wStp; rw [hk]; unfold wKin; dsimp only; rw [if_neg k5])
end
