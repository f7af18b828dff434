/-! THE WORK'S TEXT: the model, 5: a bracket -/
section
variable {w : List Nat} {tb : Nat → Nat} {n np nq o : Nat} {op : Nat → Bool}
theorem tm205 {d : Nat} {S : xr_S} {s2 : wS} {v1 : Int32} {i : Nat} (hz : ∀ a, s2.1 = .inl a → s2.2.1 < 1000) (Y : tY (xm S) tb n) (C : mWk (xm S) n (o + 1) (fun j => op j || decide (j = i)) s2) : ∃ M, xr_Run (d + 3) 189 205 [xP 0 69, xI v1, xP i 1088] [] ([], w) S = some (.inl none, ([], w), xs S M) ∧ kV (xm S) M ∧ mWk M n o op (pSgn tb n 59 (pSgn tb n 93 s2.1), wEnd i s2.2) := by
  obtain ⟨M1, e1, K1, R1⟩ := tm168 (d := d) (w := w) (S := S) Y C.1 (c := 93) (by omega)
  obtain ⟨M2, hM2⟩ : ∃ M2, M2 = xw (xw M1 0 69 8 (M1 0 69 8 - nI 1)) i 1088 4 (M1 0 69 30) := ⟨_, rfl⟩
  have e30 : xw M1 0 69 8 (M1 0 69 8 - nI 1) 0 69 30 = M1 0 69 30 := by rw [xw_n (by omega)]
  have K2 : kV M1 M2 := by rw [hM2]; exact kV_tr (kV_v _ (by omega) _) (kV_w _ _ _ _)
  have K2' := kV_tr (kM_V K1) K2
  have R2 : rM (xm (xs S M2)) n (pSgn tb n 93 s2.1) := by
    rw [xm_xs, hM2]
    have := rM_o R1 (k := 8) (by omega) (M1 0 69 8 - nI 1)
    unfold rM at this ⊢
    rw [xw_r (show ¬ (0 = i ∧ 69 = 1088) by omega)]
    exact this
  obtain ⟨M3, e3, K3, R3⟩ := tm168 (d := d) (w := w) (S := xs S M2) (tY_V K2' Y) R2 (c := 59) (by omega)
  rw [xs_xs] at e3
  rw [xm_xs] at K3
  refine ⟨M3, ?_, kV_tr K2' (kM_V K3), R3, fun a' ha => ?_⟩
  · refine (xh189_205 _ _ _ _ _).trans ?_
    rw [e1, xr_cV_s]
    refine (xh189_221 _ _ _ _ _).trans ?_
    rw [xm_xs, xm_xs, xs_xs, xs_xs, e30]
    simp (disch := omega) only [xi_t, xn_k, cond_true]
    rw [← hM2, e3, xr_cV_s]
  · obtain ⟨a2, h2, _⟩ := pSgn_nn ha
    obtain ⟨a1, h1, _⟩ := pSgn_nn h2
    obtain ⟨c1, c2, c3⟩ := C.2 a1 h1
    have f30 : M1 0 69 30 = nI s2.2.1 := by rw [K1.2 30 (by omega)]; exact c2
    have f8 : M1 0 69 8 - nI 1 = nI o := by rw [K1.2 8 (by omega), c1, xn_sub (by omega), Nat.add_sub_cancel]
    refine ⟨?_, ?_, fun j hj => ?_⟩
    · rw [K3.2 8 (by omega), hM2, xw_n (by omega), xw_y (by omega)]; exact f8
    · rw [K3.2 30 (by omega), hM2, xw_n (by omega), xw_n (by omega)]; exact f30
    · have hj : j < s2.2.1 := hj
      obtain ⟨c4, c5⟩ := c3 j hj
      have E : ∀ c, ¬ (j = i ∧ c = 4) → M3 j 1088 c = xm S j 1088 c := fun c h => by
        rw [K3.1 j 1088 (by omega), hM2, xw_n (by omega), xw_n (by omega), K1.1 j 1088 (by omega)]
      unfold wEnd
      dsimp only
      refine ⟨?_, fun ho => ?_⟩
      · unfold mRw at c4 ⊢
        rw [E 0 (by omega), E 1 (by omega), E 2 (by omega), E 3 (by omega)]
        exact c4
      · by_cases q : j = i
        · rw [if_pos q, q, K3.1 i 1088 (by omega), hM2, xw_y (by omega)]; exact f30
        · rw [if_neg q, E 4 (by omega)]
          exact c5 (by dsimp only; rw [ho, decide_eq_false q]; rfl)
end
